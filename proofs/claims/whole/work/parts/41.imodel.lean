/-! the model over whole numbers: made by gen4.py -/
def I12_fine (a1 : Int) : IM Int :=
  ib (ipI 2 0) fun _ =>
  ir a1
theorem v_N12_fine  {n_a1 : Int32} {a1 : Int} (e_a1 : n_a1 = iI a1) : Si iI (N12_fine  n_a1) (I12_fine  a1) := by
  subst e_a1
  unfold N12_fine I12_fine
  refine si_b (si_pI (eLit 0)) fun _ => ?_
  exact si_re rfl
def I12_no (a1 : Int) : IM Int :=
  ib (ipI 2 a1) fun _ =>
  ir (-9)
theorem v_N12_no  {n_a1 : Int32} {a1 : Int} (e_a1 : n_a1 = iI a1) : Si iI (N12_no  n_a1) (I12_no  a1) := by
  subst e_a1
  unfold N12_no I12_no
  refine si_b (si_pI rfl) fun _ => ?_
  exact si_re (eLn 9)
def I12_isIn (a0 : Int) (a1 : Int) (a2 : Int) : IM Int :=
  ig (R32 a0) <|
  ig (R32 a1) <|
  if a0 < a1 then (ir 0) else (ig (R32 a2) <|
  if a2 < a0 then (ir 0) else (ir 1))
theorem v_N12_isIn  {n_a0 : Int32} {a0 : Int} (e_a0 : n_a0 = iI a0) {n_a1 : Int32} {a1 : Int} (e_a1 : n_a1 = iI a1) {n_a2 : Int32} {a2 : Int} (e_a2 : n_a2 = iI a2) : Si iI (N12_isIn  n_a0 n_a1 n_a2) (I12_isIn  a0 a1 a2) := by
  subst e_a0
  subst e_a1
  subst e_a2
  unfold N12_isIn I12_isIn
  refine si_ig fun h1 => ?_
  refine si_ig fun h2 => ?_
  refine si_ite (cLt rfl rfl ⟨h1, h2⟩) ?_ ?_
  · exact si_re (eLit 0)
  · refine si_ig fun h3 => ?_
    refine si_ite (cLt rfl rfl ⟨h3, h1⟩) ?_ ?_
    · exact si_re (eLit 0)
    · exact si_re (eLit 1)
def I12_isBook (a1 : Int) : IM Int :=
  ib (igI 5) fun v1 =>
  ib (I12_isIn a1 0 (v1 - 1)) fun v2 =>
  ib (inz v2) fun v3 =>
  ir v3
theorem v_N12_isBook  {n_a1 : Int32} {a1 : Int} (e_a1 : n_a1 = iI a1) : Si iI (N12_isBook  n_a1) (I12_isBook  a1) := by
  subst e_a1
  unfold N12_isBook I12_isBook
  refine si_b si_gI fun v1 => ?_
  refine si_b (v_N12_isIn rfl (eLit 0) (eSub rfl (eLit 1))) fun v2 => ?_
  refine si_b (si_nz rfl) fun v3 => ?_
  exact si_re rfl
def I12_isCopy (a1 : Int) : IM Int :=
  ib (igI 15) fun v1 =>
  ib (I12_isIn a1 0 (v1 - 1)) fun v2 =>
  ib (inz v2) fun v3 =>
  ir v3
theorem v_N12_isCopy  {n_a1 : Int32} {a1 : Int} (e_a1 : n_a1 = iI a1) : Si iI (N12_isCopy  n_a1) (I12_isCopy  a1) := by
  subst e_a1
  unfold N12_isCopy I12_isCopy
  refine si_b si_gI fun v1 => ?_
  refine si_b (v_N12_isIn rfl (eLit 0) (eSub rfl (eLit 1))) fun v2 => ?_
  refine si_b (si_nz rfl) fun v3 => ?_
  exact si_re rfl
def I12_spot (a0 : Int) (a1 : Int) (a2 : Int) : IM Int :=
  ir ((((a0 * 71) + a1) * 13) + a2)
theorem v_N12_spot  {n_a0 : Int32} {a0 : Int} (e_a0 : n_a0 = iI a0) {n_a1 : Int32} {a1 : Int} (e_a1 : n_a1 = iI a1) {n_a2 : Int32} {a2 : Int} (e_a2 : n_a2 = iI a2) : Si iI (N12_spot  n_a0 n_a1 n_a2) (I12_spot  a0 a1 a2) := by
  subst e_a0
  subst e_a1
  subst e_a2
  unfold N12_spot I12_spot
  exact si_re (eAdd (eMul (eAdd (eMul rfl (eLit 71)) rfl) (eLit 13)) rfl)
def I12_gatheringOf_2_st (k2 : Int → Int → Int → IM Int) (x1 : Int) (x2 : Int) (x3 : Int) : IM Int :=
  ib (iaI 6 x1) fun v1 =>
  ig (R32 v1) <|
  ig (R32 x3) <|
  if v1 ≤ x3 then (ir (-1)) else (ib (iaI 7 ((x1 * 71) + x3)) fun v2 =>
  ig (R32 v2) <|
  ig (R32 x2) <|
  if v2 = x2 then (ir x3) else ((k2 x1 x2 (x3 + 1))))
theorem v_N12_gatheringOf_2_st {n_k2 : Int32 → Int32 → Int32 → NM Int32} {k2 : Int → Int → Int → IM Int} (hk2 : ∀ {n0 : Int32} {z0 : Int} (_ : n0 = iI z0) {n1 : Int32} {z1 : Int} (_ : n1 = iI z1) {n2 : Int32} {z2 : Int} (_ : n2 = iI z2), Si iI (n_k2 n0 n1 n2) (k2 z0 z1 z2)) {n_x1 : Int32} {x1 : Int} (e_x1 : n_x1 = iI x1) {n_x2 : Int32} {x2 : Int} (e_x2 : n_x2 = iI x2) {n_x3 : Int32} {x3 : Int} (e_x3 : n_x3 = iI x3) : Si iI (N12_gatheringOf_2_st n_k2 n_x1 n_x2 n_x3) (I12_gatheringOf_2_st k2 x1 x2 x3) := by
  subst e_x1
  subst e_x2
  subst e_x3
  unfold N12_gatheringOf_2_st I12_gatheringOf_2_st
  refine si_b (si_aI rfl) fun v1 => ?_
  refine si_ig fun h1 => ?_
  refine si_ig fun h2 => ?_
  refine si_ite (cLe rfl rfl ⟨h1, h2⟩) ?_ ?_
  · exact si_re (eLn 1)
  · refine si_b (si_aI (eAdd (eMul rfl (eLit 71)) rfl)) fun v2 => ?_
    refine si_ig fun h3 => ?_
    refine si_ig fun h4 => ?_
    refine si_ite (cEq rfl rfl ⟨h3, h4⟩) ?_ ?_
    · exact si_re rfl
    · exact (hk2 rfl rfl (eAdd rfl (eLit 1)))
def I12_gatheringOf_2 : Nat → Int → Int → Int → IM Int
  | 0 => fun _ _ _ => nof
  | n + 1 => fun x1 x2 x3 => I12_gatheringOf_2_st  (I12_gatheringOf_2  n) x1 x2 x3
theorem v_N12_gatheringOf_2  : ∀ (n : Nat) {n_x1 : Int32} {x1 : Int} (e_x1 : n_x1 = iI x1) {n_x2 : Int32} {x2 : Int} (e_x2 : n_x2 = iI x2) {n_x3 : Int32} {x3 : Int} (e_x3 : n_x3 = iI x3), Si iI (N12_gatheringOf_2  n n_x1 n_x2 n_x3) (I12_gatheringOf_2  n x1 x2 x3) := by
  intro n
  induction n with
  | zero => intro n_x1 x1 e_x1 n_x2 x2 e_x2 n_x3 x3 e_x3; exact si_nf
  | succ n ih => intro n_x1 x1 e_x1 n_x2 x2 e_x2 n_x3 x3 e_x3; exact v_N12_gatheringOf_2_st  (ih) e_x1 e_x2 e_x3
def I12_gatheringOf (a1 : Int) (a2 : Int) : IM Int :=
  (I12_gatheringOf_2 LFU a1 a2 0)
theorem v_N12_gatheringOf  {n_a1 : Int32} {a1 : Int} (e_a1 : n_a1 = iI a1) {n_a2 : Int32} {a2 : Int} (e_a2 : n_a2 = iI a2) : Si iI (N12_gatheringOf  n_a1 n_a2) (I12_gatheringOf  a1 a2) := by
  subst e_a1
  subst e_a2
  unfold N12_gatheringOf I12_gatheringOf
  exact (v_N12_gatheringOf_2 LFU rfl rfl (eLit 0))
def I12_layOut_122 (k4 : Int → Int → Int → IM Unit) (k17 : Int → Int → Int → Int → IM Unit) (x1 : Int) (x2 : Int) (x3 : Int) (x4 : Int) : IM Unit :=
  (k17 x1 x2 x3 (x4 + 1))
theorem v_N12_layOut_122 {n_k4 : Int32 → Int32 → Int32 → NM Unit} {k4 : Int → Int → Int → IM Unit} (hk4 : ∀ {n0 : Int32} {z0 : Int} (_ : n0 = iI z0) {n1 : Int32} {z1 : Int} (_ : n1 = iI z1) {n2 : Int32} {z2 : Int} (_ : n2 = iI z2), Si (fun x : Unit => x) (n_k4 n0 n1 n2) (k4 z0 z1 z2)) {n_k17 : Int32 → Int32 → Int32 → Int32 → NM Unit} {k17 : Int → Int → Int → Int → IM Unit} (hk17 : ∀ {n0 : Int32} {z0 : Int} (_ : n0 = iI z0) {n1 : Int32} {z1 : Int} (_ : n1 = iI z1) {n2 : Int32} {z2 : Int} (_ : n2 = iI z2) {n3 : Int32} {z3 : Int} (_ : n3 = iI z3), Si (fun x : Unit => x) (n_k17 n0 n1 n2 n3) (k17 z0 z1 z2 z3)) {n_x1 : Int32} {x1 : Int} (e_x1 : n_x1 = iI x1) {n_x2 : Int32} {x2 : Int} (e_x2 : n_x2 = iI x2) {n_x3 : Int32} {x3 : Int} (e_x3 : n_x3 = iI x3) {n_x4 : Int32} {x4 : Int} (e_x4 : n_x4 = iI x4) : Si (fun x : Unit => x) (N12_layOut_122 n_k4 n_k17 n_x1 n_x2 n_x3 n_x4) (I12_layOut_122 k4 k17 x1 x2 x3 x4) := by
  subst e_x1
  subst e_x2
  subst e_x3
  subst e_x4
  unfold N12_layOut_122 I12_layOut_122
  exact (hk17 rfl rfl rfl (eAdd rfl (eLit 1)))
def I12_layOut_60_st (k4 : Int → Int → Int → IM Unit) (k17 : Int → Int → Int → Int → IM Unit) (k60 : Int → Int → Int → Int → Int → Int → IM Unit) (x1 : Int) (x2 : Int) (x3 : Int) (x4 : Int) (x5 : Int) (x6 : Int) : IM Unit :=
  ib (iaI 10 x5) fun v1 =>
  ig (R32 v1) <|
  ig (R32 x6) <|
  if v1 < x6 then ((I12_layOut_122 k4 k17 x1 x2 x3 x4)) else (ib (isI 12 ((x1 * 400) + x2) x3) fun _ =>
  ib (isI 13 ((x1 * 400) + x2) x4) fun _ =>
  ib (isI 14 ((x1 * 400) + x2) x6) fun _ =>
  (k60 x1 (x2 + 1) x3 x4 x5 (x6 + 1)))
theorem v_N12_layOut_60_st {n_k4 : Int32 → Int32 → Int32 → NM Unit} {k4 : Int → Int → Int → IM Unit} (hk4 : ∀ {n0 : Int32} {z0 : Int} (_ : n0 = iI z0) {n1 : Int32} {z1 : Int} (_ : n1 = iI z1) {n2 : Int32} {z2 : Int} (_ : n2 = iI z2), Si (fun x : Unit => x) (n_k4 n0 n1 n2) (k4 z0 z1 z2)) {n_k17 : Int32 → Int32 → Int32 → Int32 → NM Unit} {k17 : Int → Int → Int → Int → IM Unit} (hk17 : ∀ {n0 : Int32} {z0 : Int} (_ : n0 = iI z0) {n1 : Int32} {z1 : Int} (_ : n1 = iI z1) {n2 : Int32} {z2 : Int} (_ : n2 = iI z2) {n3 : Int32} {z3 : Int} (_ : n3 = iI z3), Si (fun x : Unit => x) (n_k17 n0 n1 n2 n3) (k17 z0 z1 z2 z3)) {n_k60 : Int32 → Int32 → Int32 → Int32 → Int32 → Int32 → NM Unit} {k60 : Int → Int → Int → Int → Int → Int → IM Unit} (hk60 : ∀ {n0 : Int32} {z0 : Int} (_ : n0 = iI z0) {n1 : Int32} {z1 : Int} (_ : n1 = iI z1) {n2 : Int32} {z2 : Int} (_ : n2 = iI z2) {n3 : Int32} {z3 : Int} (_ : n3 = iI z3) {n4 : Int32} {z4 : Int} (_ : n4 = iI z4) {n5 : Int32} {z5 : Int} (_ : n5 = iI z5), Si (fun x : Unit => x) (n_k60 n0 n1 n2 n3 n4 n5) (k60 z0 z1 z2 z3 z4 z5)) {n_x1 : Int32} {x1 : Int} (e_x1 : n_x1 = iI x1) {n_x2 : Int32} {x2 : Int} (e_x2 : n_x2 = iI x2) {n_x3 : Int32} {x3 : Int} (e_x3 : n_x3 = iI x3) {n_x4 : Int32} {x4 : Int} (e_x4 : n_x4 = iI x4) {n_x5 : Int32} {x5 : Int} (e_x5 : n_x5 = iI x5) {n_x6 : Int32} {x6 : Int} (e_x6 : n_x6 = iI x6) : Si (fun x : Unit => x) (N12_layOut_60_st n_k4 n_k17 n_k60 n_x1 n_x2 n_x3 n_x4 n_x5 n_x6) (I12_layOut_60_st k4 k17 k60 x1 x2 x3 x4 x5 x6) := by
  subst e_x1
  subst e_x2
  subst e_x3
  subst e_x4
  subst e_x5
  subst e_x6
  unfold N12_layOut_60_st I12_layOut_60_st
  refine si_b (si_aI rfl) fun v1 => ?_
  refine si_ig fun h1 => ?_
  refine si_ig fun h2 => ?_
  refine si_ite (cLt rfl rfl ⟨h1, h2⟩) ?_ ?_
  · exact (v_N12_layOut_122 hk4 hk17 rfl rfl rfl rfl)
  · refine si_b (si_sI (eAdd (eMul rfl (eLit 400)) rfl) rfl) fun _ => ?_
    refine si_b (si_sI (eAdd (eMul rfl (eLit 400)) rfl) rfl) fun _ => ?_
    refine si_b (si_sI (eAdd (eMul rfl (eLit 400)) rfl) rfl) fun _ => ?_
    exact (hk60 rfl (eAdd rfl (eLit 1)) rfl rfl rfl (eAdd rfl (eLit 1)))
def I12_layOut_60 (k4 : Int → Int → Int → IM Unit) (k17 : Int → Int → Int → Int → IM Unit) : Nat → Int → Int → Int → Int → Int → Int → IM Unit
  | 0 => fun _ _ _ _ _ _ => nof
  | n + 1 => fun x1 x2 x3 x4 x5 x6 => I12_layOut_60_st k4 k17 (I12_layOut_60 k4 k17 n) x1 x2 x3 x4 x5 x6
theorem v_N12_layOut_60 {n_k4 : Int32 → Int32 → Int32 → NM Unit} {k4 : Int → Int → Int → IM Unit} (hk4 : ∀ {n0 : Int32} {z0 : Int} (_ : n0 = iI z0) {n1 : Int32} {z1 : Int} (_ : n1 = iI z1) {n2 : Int32} {z2 : Int} (_ : n2 = iI z2), Si (fun x : Unit => x) (n_k4 n0 n1 n2) (k4 z0 z1 z2)) {n_k17 : Int32 → Int32 → Int32 → Int32 → NM Unit} {k17 : Int → Int → Int → Int → IM Unit} (hk17 : ∀ {n0 : Int32} {z0 : Int} (_ : n0 = iI z0) {n1 : Int32} {z1 : Int} (_ : n1 = iI z1) {n2 : Int32} {z2 : Int} (_ : n2 = iI z2) {n3 : Int32} {z3 : Int} (_ : n3 = iI z3), Si (fun x : Unit => x) (n_k17 n0 n1 n2 n3) (k17 z0 z1 z2 z3)) : ∀ (n : Nat) {n_x1 : Int32} {x1 : Int} (e_x1 : n_x1 = iI x1) {n_x2 : Int32} {x2 : Int} (e_x2 : n_x2 = iI x2) {n_x3 : Int32} {x3 : Int} (e_x3 : n_x3 = iI x3) {n_x4 : Int32} {x4 : Int} (e_x4 : n_x4 = iI x4) {n_x5 : Int32} {x5 : Int} (e_x5 : n_x5 = iI x5) {n_x6 : Int32} {x6 : Int} (e_x6 : n_x6 = iI x6), Si (fun x : Unit => x) (N12_layOut_60 n_k4 n_k17 n n_x1 n_x2 n_x3 n_x4 n_x5 n_x6) (I12_layOut_60 k4 k17 n x1 x2 x3 x4 x5 x6) := by
  intro n
  induction n with
  | zero => intro n_x1 x1 e_x1 n_x2 x2 e_x2 n_x3 x3 e_x3 n_x4 x4 e_x4 n_x5 x5 e_x5 n_x6 x6 e_x6; exact si_nf
  | succ n ih => intro n_x1 x1 e_x1 n_x2 x2 e_x2 n_x3 x3 e_x3 n_x4 x4 e_x4 n_x5 x5 e_x5 n_x6 x6 e_x6; exact v_N12_layOut_60_st hk4 hk17 (ih) e_x1 e_x2 e_x3 e_x4 e_x5 e_x6
def I12_layOut_58 (k4 : Int → Int → Int → IM Unit) (k17 : Int → Int → Int → Int → IM Unit) (x1 : Int) (x2 : Int) (x3 : Int) (x4 : Int) (x5 : Int) (y0 : Int) : IM Unit :=
  (I12_layOut_60 k4 k17 LFU x1 x2 x3 x4 x5 y0)
theorem v_N12_layOut_58 {n_k4 : Int32 → Int32 → Int32 → NM Unit} {k4 : Int → Int → Int → IM Unit} (hk4 : ∀ {n0 : Int32} {z0 : Int} (_ : n0 = iI z0) {n1 : Int32} {z1 : Int} (_ : n1 = iI z1) {n2 : Int32} {z2 : Int} (_ : n2 = iI z2), Si (fun x : Unit => x) (n_k4 n0 n1 n2) (k4 z0 z1 z2)) {n_k17 : Int32 → Int32 → Int32 → Int32 → NM Unit} {k17 : Int → Int → Int → Int → IM Unit} (hk17 : ∀ {n0 : Int32} {z0 : Int} (_ : n0 = iI z0) {n1 : Int32} {z1 : Int} (_ : n1 = iI z1) {n2 : Int32} {z2 : Int} (_ : n2 = iI z2) {n3 : Int32} {z3 : Int} (_ : n3 = iI z3), Si (fun x : Unit => x) (n_k17 n0 n1 n2 n3) (k17 z0 z1 z2 z3)) {n_x1 : Int32} {x1 : Int} (e_x1 : n_x1 = iI x1) {n_x2 : Int32} {x2 : Int} (e_x2 : n_x2 = iI x2) {n_x3 : Int32} {x3 : Int} (e_x3 : n_x3 = iI x3) {n_x4 : Int32} {x4 : Int} (e_x4 : n_x4 = iI x4) {n_x5 : Int32} {x5 : Int} (e_x5 : n_x5 = iI x5) {n_y0 : Int32} {y0 : Int} (e_y0 : n_y0 = iI y0) : Si (fun x : Unit => x) (N12_layOut_58 n_k4 n_k17 n_x1 n_x2 n_x3 n_x4 n_x5 n_y0) (I12_layOut_58 k4 k17 x1 x2 x3 x4 x5 y0) := by
  subst e_x1
  subst e_x2
  subst e_x3
  subst e_x4
  subst e_x5
  subst e_y0
  unfold N12_layOut_58 I12_layOut_58
  exact (v_N12_layOut_60 hk4 hk17 LFU rfl rfl rfl rfl rfl rfl)
def I12_layOut_128 (k4 : Int → Int → Int → IM Unit) (x1 : Int) (x2 : Int) (x3 : Int) : IM Unit :=
  (k4 x1 x2 (x3 + 1))
theorem v_N12_layOut_128 {n_k4 : Int32 → Int32 → Int32 → NM Unit} {k4 : Int → Int → Int → IM Unit} (hk4 : ∀ {n0 : Int32} {z0 : Int} (_ : n0 = iI z0) {n1 : Int32} {z1 : Int} (_ : n1 = iI z1) {n2 : Int32} {z2 : Int} (_ : n2 = iI z2), Si (fun x : Unit => x) (n_k4 n0 n1 n2) (k4 z0 z1 z2)) {n_x1 : Int32} {x1 : Int} (e_x1 : n_x1 = iI x1) {n_x2 : Int32} {x2 : Int} (e_x2 : n_x2 = iI x2) {n_x3 : Int32} {x3 : Int} (e_x3 : n_x3 = iI x3) : Si (fun x : Unit => x) (N12_layOut_128 n_k4 n_x1 n_x2 n_x3) (I12_layOut_128 k4 x1 x2 x3) := by
  subst e_x1
  subst e_x2
  subst e_x3
  unfold N12_layOut_128 I12_layOut_128
  exact (hk4 rfl rfl (eAdd rfl (eLit 1)))
def I12_layOut_17_st (k4 : Int → Int → Int → IM Unit) (k17 : Int → Int → Int → Int → IM Unit) (x1 : Int) (x2 : Int) (x3 : Int) (x4 : Int) : IM Unit :=
  ib (iaI 8 ((x1 * 71) + x3)) fun v1 =>
  ig (R32 v1) <|
  ig (R32 x4) <|
  if v1 < x4 then ((I12_layOut_128 k4 x1 x2 x3)) else (ib (I12_spot x1 x3 x4) fun v2 =>
  ib (iaI 9 v2) fun v3 =>
  ig (R32 v3) <|
  if v3 = 1 then ((I12_layOut_58 k4 k17 x1 x2 x3 x4 v2 1)) else ((I12_layOut_58 k4 k17 x1 x2 x3 x4 v2 0)))
theorem v_N12_layOut_17_st {n_k4 : Int32 → Int32 → Int32 → NM Unit} {k4 : Int → Int → Int → IM Unit} (hk4 : ∀ {n0 : Int32} {z0 : Int} (_ : n0 = iI z0) {n1 : Int32} {z1 : Int} (_ : n1 = iI z1) {n2 : Int32} {z2 : Int} (_ : n2 = iI z2), Si (fun x : Unit => x) (n_k4 n0 n1 n2) (k4 z0 z1 z2)) {n_k17 : Int32 → Int32 → Int32 → Int32 → NM Unit} {k17 : Int → Int → Int → Int → IM Unit} (hk17 : ∀ {n0 : Int32} {z0 : Int} (_ : n0 = iI z0) {n1 : Int32} {z1 : Int} (_ : n1 = iI z1) {n2 : Int32} {z2 : Int} (_ : n2 = iI z2) {n3 : Int32} {z3 : Int} (_ : n3 = iI z3), Si (fun x : Unit => x) (n_k17 n0 n1 n2 n3) (k17 z0 z1 z2 z3)) {n_x1 : Int32} {x1 : Int} (e_x1 : n_x1 = iI x1) {n_x2 : Int32} {x2 : Int} (e_x2 : n_x2 = iI x2) {n_x3 : Int32} {x3 : Int} (e_x3 : n_x3 = iI x3) {n_x4 : Int32} {x4 : Int} (e_x4 : n_x4 = iI x4) : Si (fun x : Unit => x) (N12_layOut_17_st n_k4 n_k17 n_x1 n_x2 n_x3 n_x4) (I12_layOut_17_st k4 k17 x1 x2 x3 x4) := by
  subst e_x1
  subst e_x2
  subst e_x3
  subst e_x4
  unfold N12_layOut_17_st I12_layOut_17_st
  refine si_b (si_aI (eAdd (eMul rfl (eLit 71)) rfl)) fun v1 => ?_
  refine si_ig fun h1 => ?_
  refine si_ig fun h2 => ?_
  refine si_ite (cLt rfl rfl ⟨h1, h2⟩) ?_ ?_
  · exact (v_N12_layOut_128 hk4 rfl rfl rfl)
  · refine si_b (v_N12_spot rfl rfl rfl) fun v2 => ?_
    refine si_b (si_aI rfl) fun v3 => ?_
    refine si_ig fun h3 => ?_
    refine si_ite (cEq rfl (eLit 1) ⟨h3, (by decide)⟩) ?_ ?_
    · exact (v_N12_layOut_58 hk4 hk17 rfl rfl rfl rfl rfl (eLit 1))
    · exact (v_N12_layOut_58 hk4 hk17 rfl rfl rfl rfl rfl (eLit 0))
def I12_layOut_17 (k4 : Int → Int → Int → IM Unit) : Nat → Int → Int → Int → Int → IM Unit
  | 0 => fun _ _ _ _ => nof
  | n + 1 => fun x1 x2 x3 x4 => I12_layOut_17_st k4 (I12_layOut_17 k4 n) x1 x2 x3 x4
theorem v_N12_layOut_17 {n_k4 : Int32 → Int32 → Int32 → NM Unit} {k4 : Int → Int → Int → IM Unit} (hk4 : ∀ {n0 : Int32} {z0 : Int} (_ : n0 = iI z0) {n1 : Int32} {z1 : Int} (_ : n1 = iI z1) {n2 : Int32} {z2 : Int} (_ : n2 = iI z2), Si (fun x : Unit => x) (n_k4 n0 n1 n2) (k4 z0 z1 z2)) : ∀ (n : Nat) {n_x1 : Int32} {x1 : Int} (e_x1 : n_x1 = iI x1) {n_x2 : Int32} {x2 : Int} (e_x2 : n_x2 = iI x2) {n_x3 : Int32} {x3 : Int} (e_x3 : n_x3 = iI x3) {n_x4 : Int32} {x4 : Int} (e_x4 : n_x4 = iI x4), Si (fun x : Unit => x) (N12_layOut_17 n_k4 n n_x1 n_x2 n_x3 n_x4) (I12_layOut_17 k4 n x1 x2 x3 x4) := by
  intro n
  induction n with
  | zero => intro n_x1 x1 e_x1 n_x2 x2 e_x2 n_x3 x3 e_x3 n_x4 x4 e_x4; exact si_nf
  | succ n ih => intro n_x1 x1 e_x1 n_x2 x2 e_x2 n_x3 x3 e_x3 n_x4 x4 e_x4; exact v_N12_layOut_17_st hk4 (ih) e_x1 e_x2 e_x3 e_x4
def I12_layOut_4_st (k4 : Int → Int → Int → IM Unit) (x1 : Int) (x2 : Int) (x3 : Int) : IM Unit :=
  ib (iaI 6 x1) fun v1 =>
  ig (R32 v1) <|
  ig (R32 x3) <|
  if v1 ≤ x3 then (ib (isI 11 x1 x2) fun _ =>
  ir ()) else ((I12_layOut_17 k4 LFU x1 x2 x3 1))
theorem v_N12_layOut_4_st {n_k4 : Int32 → Int32 → Int32 → NM Unit} {k4 : Int → Int → Int → IM Unit} (hk4 : ∀ {n0 : Int32} {z0 : Int} (_ : n0 = iI z0) {n1 : Int32} {z1 : Int} (_ : n1 = iI z1) {n2 : Int32} {z2 : Int} (_ : n2 = iI z2), Si (fun x : Unit => x) (n_k4 n0 n1 n2) (k4 z0 z1 z2)) {n_x1 : Int32} {x1 : Int} (e_x1 : n_x1 = iI x1) {n_x2 : Int32} {x2 : Int} (e_x2 : n_x2 = iI x2) {n_x3 : Int32} {x3 : Int} (e_x3 : n_x3 = iI x3) : Si (fun x : Unit => x) (N12_layOut_4_st n_k4 n_x1 n_x2 n_x3) (I12_layOut_4_st k4 x1 x2 x3) := by
  subst e_x1
  subst e_x2
  subst e_x3
  unfold N12_layOut_4_st I12_layOut_4_st
  refine si_b (si_aI rfl) fun v1 => ?_
  refine si_ig fun h1 => ?_
  refine si_ig fun h2 => ?_
  refine si_ite (cLe rfl rfl ⟨h1, h2⟩) ?_ ?_
  · refine si_b (si_sI rfl rfl) fun _ => ?_
    exact si_rn
  · exact (v_N12_layOut_17 hk4 LFU rfl rfl rfl (eLit 1))
def I12_layOut_4 : Nat → Int → Int → Int → IM Unit
  | 0 => fun _ _ _ => nof
  | n + 1 => fun x1 x2 x3 => I12_layOut_4_st  (I12_layOut_4  n) x1 x2 x3
theorem v_N12_layOut_4  : ∀ (n : Nat) {n_x1 : Int32} {x1 : Int} (e_x1 : n_x1 = iI x1) {n_x2 : Int32} {x2 : Int} (e_x2 : n_x2 = iI x2) {n_x3 : Int32} {x3 : Int} (e_x3 : n_x3 = iI x3), Si (fun x : Unit => x) (N12_layOut_4  n n_x1 n_x2 n_x3) (I12_layOut_4  n x1 x2 x3) := by
  intro n
  induction n with
  | zero => intro n_x1 x1 e_x1 n_x2 x2 e_x2 n_x3 x3 e_x3; exact si_nf
  | succ n ih => intro n_x1 x1 e_x1 n_x2 x2 e_x2 n_x3 x3 e_x3; exact v_N12_layOut_4_st  (ih) e_x1 e_x2 e_x3
def I12_layOut (a1 : Int) : IM Unit :=
  (I12_layOut_4 LFU a1 0 0)
theorem v_N12_layOut  {n_a1 : Int32} {a1 : Int} (e_a1 : n_a1 = iI a1) : Si (fun x : Unit => x) (N12_layOut  n_a1) (I12_layOut  a1) := by
  subst e_a1
  unfold N12_layOut I12_layOut
  exact (v_N12_layOut_4 LFU rfl (eLit 0) (eLit 0))
def I12_total_68 (k4 : Int → Int → Int → IM Int) (x1 : Int) (x2 : Int) (x3 : Int) : IM Int :=
  (k4 x1 x2 (x3 + 1))
theorem v_N12_total_68 {n_k4 : Int32 → Int32 → Int32 → NM Int32} {k4 : Int → Int → Int → IM Int} (hk4 : ∀ {n0 : Int32} {z0 : Int} (_ : n0 = iI z0) {n1 : Int32} {z1 : Int} (_ : n1 = iI z1) {n2 : Int32} {z2 : Int} (_ : n2 = iI z2), Si iI (n_k4 n0 n1 n2) (k4 z0 z1 z2)) {n_x1 : Int32} {x1 : Int} (e_x1 : n_x1 = iI x1) {n_x2 : Int32} {x2 : Int} (e_x2 : n_x2 = iI x2) {n_x3 : Int32} {x3 : Int} (e_x3 : n_x3 = iI x3) : Si iI (N12_total_68 n_k4 n_x1 n_x2 n_x3) (I12_total_68 k4 x1 x2 x3) := by
  subst e_x1
  subst e_x2
  subst e_x3
  unfold N12_total_68 I12_total_68
  exact (hk4 rfl rfl (eAdd rfl (eLit 1)))
def I12_total_31_st (k4 : Int → Int → Int → IM Int) (k31 : Int → Int → Int → Int → IM Int) (x1 : Int) (x2 : Int) (x3 : Int) (x4 : Int) : IM Int :=
  ib (iaI 8 ((x1 * 71) + x3)) fun v1 =>
  ig (R32 v1) <|
  ig (R32 x4) <|
  if v1 < x4 then ((I12_total_68 k4 x1 x2 x3)) else (ib (I12_spot x1 x3 x4) fun v2 =>
  ib (iaI 10 v2) fun v3 =>
  (k31 x1 (x2 + v3) x3 (x4 + 1)))
theorem v_N12_total_31_st {n_k4 : Int32 → Int32 → Int32 → NM Int32} {k4 : Int → Int → Int → IM Int} (hk4 : ∀ {n0 : Int32} {z0 : Int} (_ : n0 = iI z0) {n1 : Int32} {z1 : Int} (_ : n1 = iI z1) {n2 : Int32} {z2 : Int} (_ : n2 = iI z2), Si iI (n_k4 n0 n1 n2) (k4 z0 z1 z2)) {n_k31 : Int32 → Int32 → Int32 → Int32 → NM Int32} {k31 : Int → Int → Int → Int → IM Int} (hk31 : ∀ {n0 : Int32} {z0 : Int} (_ : n0 = iI z0) {n1 : Int32} {z1 : Int} (_ : n1 = iI z1) {n2 : Int32} {z2 : Int} (_ : n2 = iI z2) {n3 : Int32} {z3 : Int} (_ : n3 = iI z3), Si iI (n_k31 n0 n1 n2 n3) (k31 z0 z1 z2 z3)) {n_x1 : Int32} {x1 : Int} (e_x1 : n_x1 = iI x1) {n_x2 : Int32} {x2 : Int} (e_x2 : n_x2 = iI x2) {n_x3 : Int32} {x3 : Int} (e_x3 : n_x3 = iI x3) {n_x4 : Int32} {x4 : Int} (e_x4 : n_x4 = iI x4) : Si iI (N12_total_31_st n_k4 n_k31 n_x1 n_x2 n_x3 n_x4) (I12_total_31_st k4 k31 x1 x2 x3 x4) := by
  subst e_x1
  subst e_x2
  subst e_x3
  subst e_x4
  unfold N12_total_31_st I12_total_31_st
  refine si_b (si_aI (eAdd (eMul rfl (eLit 71)) rfl)) fun v1 => ?_
  refine si_ig fun h1 => ?_
  refine si_ig fun h2 => ?_
  refine si_ite (cLt rfl rfl ⟨h1, h2⟩) ?_ ?_
  · exact (v_N12_total_68 hk4 rfl rfl rfl)
  · refine si_b (v_N12_spot rfl rfl rfl) fun v2 => ?_
    refine si_b (si_aI rfl) fun v3 => ?_
    exact (hk31 rfl (eAdd rfl rfl) rfl (eAdd rfl (eLit 1)))
def I12_total_31 (k4 : Int → Int → Int → IM Int) : Nat → Int → Int → Int → Int → IM Int
  | 0 => fun _ _ _ _ => nof
  | n + 1 => fun x1 x2 x3 x4 => I12_total_31_st k4 (I12_total_31 k4 n) x1 x2 x3 x4
theorem v_N12_total_31 {n_k4 : Int32 → Int32 → Int32 → NM Int32} {k4 : Int → Int → Int → IM Int} (hk4 : ∀ {n0 : Int32} {z0 : Int} (_ : n0 = iI z0) {n1 : Int32} {z1 : Int} (_ : n1 = iI z1) {n2 : Int32} {z2 : Int} (_ : n2 = iI z2), Si iI (n_k4 n0 n1 n2) (k4 z0 z1 z2)) : ∀ (n : Nat) {n_x1 : Int32} {x1 : Int} (e_x1 : n_x1 = iI x1) {n_x2 : Int32} {x2 : Int} (e_x2 : n_x2 = iI x2) {n_x3 : Int32} {x3 : Int} (e_x3 : n_x3 = iI x3) {n_x4 : Int32} {x4 : Int} (e_x4 : n_x4 = iI x4), Si iI (N12_total_31 n_k4 n n_x1 n_x2 n_x3 n_x4) (I12_total_31 k4 n x1 x2 x3 x4) := by
  intro n
  induction n with
  | zero => intro n_x1 x1 e_x1 n_x2 x2 e_x2 n_x3 x3 e_x3 n_x4 x4 e_x4; exact si_nf
  | succ n ih => intro n_x1 x1 e_x1 n_x2 x2 e_x2 n_x3 x3 e_x3 n_x4 x4 e_x4; exact v_N12_total_31_st hk4 (ih) e_x1 e_x2 e_x3 e_x4
def I12_total_4_st (k4 : Int → Int → Int → IM Int) (x1 : Int) (x2 : Int) (x3 : Int) : IM Int :=
  ib (iaI 6 x1) fun v1 =>
  ig (R32 v1) <|
  ig (R32 x3) <|
  if v1 ≤ x3 then (ir x2) else (ib (iaI 8 ((x1 * 71) + x3)) fun v2 =>
  (I12_total_31 k4 LFU x1 (x2 + v2) x3 1))
theorem v_N12_total_4_st {n_k4 : Int32 → Int32 → Int32 → NM Int32} {k4 : Int → Int → Int → IM Int} (hk4 : ∀ {n0 : Int32} {z0 : Int} (_ : n0 = iI z0) {n1 : Int32} {z1 : Int} (_ : n1 = iI z1) {n2 : Int32} {z2 : Int} (_ : n2 = iI z2), Si iI (n_k4 n0 n1 n2) (k4 z0 z1 z2)) {n_x1 : Int32} {x1 : Int} (e_x1 : n_x1 = iI x1) {n_x2 : Int32} {x2 : Int} (e_x2 : n_x2 = iI x2) {n_x3 : Int32} {x3 : Int} (e_x3 : n_x3 = iI x3) : Si iI (N12_total_4_st n_k4 n_x1 n_x2 n_x3) (I12_total_4_st k4 x1 x2 x3) := by
  subst e_x1
  subst e_x2
  subst e_x3
  unfold N12_total_4_st I12_total_4_st
  refine si_b (si_aI rfl) fun v1 => ?_
  refine si_ig fun h1 => ?_
  refine si_ig fun h2 => ?_
  refine si_ite (cLe rfl rfl ⟨h1, h2⟩) ?_ ?_
  · exact si_re rfl
  · refine si_b (si_aI (eAdd (eMul rfl (eLit 71)) rfl)) fun v2 => ?_
    exact (v_N12_total_31 hk4 LFU rfl (eAdd rfl rfl) rfl (eLit 1))
def I12_total_4 : Nat → Int → Int → Int → IM Int
  | 0 => fun _ _ _ => nof
  | n + 1 => fun x1 x2 x3 => I12_total_4_st  (I12_total_4  n) x1 x2 x3
theorem v_N12_total_4  : ∀ (n : Nat) {n_x1 : Int32} {x1 : Int} (e_x1 : n_x1 = iI x1) {n_x2 : Int32} {x2 : Int} (e_x2 : n_x2 = iI x2) {n_x3 : Int32} {x3 : Int} (e_x3 : n_x3 = iI x3), Si iI (N12_total_4  n n_x1 n_x2 n_x3) (I12_total_4  n x1 x2 x3) := by
  intro n
  induction n with
  | zero => intro n_x1 x1 e_x1 n_x2 x2 e_x2 n_x3 x3 e_x3; exact si_nf
  | succ n ih => intro n_x1 x1 e_x1 n_x2 x2 e_x2 n_x3 x3 e_x3; exact v_N12_total_4_st  (ih) e_x1 e_x2 e_x3
def I12_total (a1 : Int) : IM Int :=
  (I12_total_4 LFU a1 0 0)
theorem v_N12_total  {n_a1 : Int32} {a1 : Int} (e_a1 : n_a1 = iI a1) : Si iI (N12_total  n_a1) (I12_total  a1) := by
  subst e_a1
  unfold N12_total I12_total
  exact (v_N12_total_4 LFU rfl (eLit 0) (eLit 0))
def I12_placeOf_71 (k3 : Int → Int → Int → Int → Int → IM Int) (x1 : Int) (x2 : Int) (x3 : Int) (x4 : Int) (x5 : Int) : IM Int :=
  (k3 x1 x2 x3 x4 (x5 + 1))
theorem v_N12_placeOf_71 {n_k3 : Int32 → Int32 → Int32 → Int32 → Int32 → NM Int32} {k3 : Int → Int → Int → Int → Int → IM Int} (hk3 : ∀ {n0 : Int32} {z0 : Int} (_ : n0 = iI z0) {n1 : Int32} {z1 : Int} (_ : n1 = iI z1) {n2 : Int32} {z2 : Int} (_ : n2 = iI z2) {n3 : Int32} {z3 : Int} (_ : n3 = iI z3) {n4 : Int32} {z4 : Int} (_ : n4 = iI z4), Si iI (n_k3 n0 n1 n2 n3 n4) (k3 z0 z1 z2 z3 z4)) {n_x1 : Int32} {x1 : Int} (e_x1 : n_x1 = iI x1) {n_x2 : Int32} {x2 : Int} (e_x2 : n_x2 = iI x2) {n_x3 : Int32} {x3 : Int} (e_x3 : n_x3 = iI x3) {n_x4 : Int32} {x4 : Int} (e_x4 : n_x4 = iI x4) {n_x5 : Int32} {x5 : Int} (e_x5 : n_x5 = iI x5) : Si iI (N12_placeOf_71 n_k3 n_x1 n_x2 n_x3 n_x4 n_x5) (I12_placeOf_71 k3 x1 x2 x3 x4 x5) := by
  subst e_x1
  subst e_x2
  subst e_x3
  subst e_x4
  subst e_x5
  unfold N12_placeOf_71 I12_placeOf_71
  exact (hk3 rfl rfl rfl rfl (eAdd rfl (eLit 1)))
def I12_placeOf_3_st (k3 : Int → Int → Int → Int → Int → IM Int) (x1 : Int) (x2 : Int) (x3 : Int) (x4 : Int) (x5 : Int) : IM Int :=
  ib (iaI 11 x1) fun v1 =>
  ig (R32 v1) <|
  ig (R32 x5) <|
  if v1 ≤ x5 then (ir (-1)) else (ib (iaI 12 ((x1 * 400) + x5)) fun v2 =>
  ib (iaI 7 ((x1 * 71) + v2)) fun v3 =>
  ig (R32 v3) <|
  ig (R32 x2) <|
  if v3 = x2 then (ib (iaI 13 ((x1 * 400) + x5)) fun v4 =>
  ig (R32 v4) <|
  ig (R32 x3) <|
  if v4 = x3 then (ib (iaI 14 ((x1 * 400) + x5)) fun v5 =>
  ig (R32 v5) <|
  ig (R32 x4) <|
  if v5 = x4 then (ir x5) else ((I12_placeOf_71 k3 x1 x2 x3 x4 x5))) else ((I12_placeOf_71 k3 x1 x2 x3 x4 x5))) else ((I12_placeOf_71 k3 x1 x2 x3 x4 x5)))
theorem v_N12_placeOf_3_st {n_k3 : Int32 → Int32 → Int32 → Int32 → Int32 → NM Int32} {k3 : Int → Int → Int → Int → Int → IM Int} (hk3 : ∀ {n0 : Int32} {z0 : Int} (_ : n0 = iI z0) {n1 : Int32} {z1 : Int} (_ : n1 = iI z1) {n2 : Int32} {z2 : Int} (_ : n2 = iI z2) {n3 : Int32} {z3 : Int} (_ : n3 = iI z3) {n4 : Int32} {z4 : Int} (_ : n4 = iI z4), Si iI (n_k3 n0 n1 n2 n3 n4) (k3 z0 z1 z2 z3 z4)) {n_x1 : Int32} {x1 : Int} (e_x1 : n_x1 = iI x1) {n_x2 : Int32} {x2 : Int} (e_x2 : n_x2 = iI x2) {n_x3 : Int32} {x3 : Int} (e_x3 : n_x3 = iI x3) {n_x4 : Int32} {x4 : Int} (e_x4 : n_x4 = iI x4) {n_x5 : Int32} {x5 : Int} (e_x5 : n_x5 = iI x5) : Si iI (N12_placeOf_3_st n_k3 n_x1 n_x2 n_x3 n_x4 n_x5) (I12_placeOf_3_st k3 x1 x2 x3 x4 x5) := by
  subst e_x1
  subst e_x2
  subst e_x3
  subst e_x4
  subst e_x5
  unfold N12_placeOf_3_st I12_placeOf_3_st
  refine si_b (si_aI rfl) fun v1 => ?_
  refine si_ig fun h1 => ?_
  refine si_ig fun h2 => ?_
  refine si_ite (cLe rfl rfl ⟨h1, h2⟩) ?_ ?_
  · exact si_re (eLn 1)
  · refine si_b (si_aI (eAdd (eMul rfl (eLit 400)) rfl)) fun v2 => ?_
    refine si_b (si_aI (eAdd (eMul rfl (eLit 71)) rfl)) fun v3 => ?_
    refine si_ig fun h3 => ?_
    refine si_ig fun h4 => ?_
    refine si_ite (cEq rfl rfl ⟨h3, h4⟩) ?_ ?_
    · refine si_b (si_aI (eAdd (eMul rfl (eLit 400)) rfl)) fun v4 => ?_
      refine si_ig fun h5 => ?_
      refine si_ig fun h6 => ?_
      refine si_ite (cEq rfl rfl ⟨h5, h6⟩) ?_ ?_
      · refine si_b (si_aI (eAdd (eMul rfl (eLit 400)) rfl)) fun v5 => ?_
        refine si_ig fun h7 => ?_
        refine si_ig fun h8 => ?_
        refine si_ite (cEq rfl rfl ⟨h7, h8⟩) ?_ ?_
        · exact si_re rfl
        · exact (v_N12_placeOf_71 hk3 rfl rfl rfl rfl rfl)
      · exact (v_N12_placeOf_71 hk3 rfl rfl rfl rfl rfl)
    · exact (v_N12_placeOf_71 hk3 rfl rfl rfl rfl rfl)
def I12_placeOf_3 : Nat → Int → Int → Int → Int → Int → IM Int
  | 0 => fun _ _ _ _ _ => nof
  | n + 1 => fun x1 x2 x3 x4 x5 => I12_placeOf_3_st  (I12_placeOf_3  n) x1 x2 x3 x4 x5
theorem v_N12_placeOf_3  : ∀ (n : Nat) {n_x1 : Int32} {x1 : Int} (e_x1 : n_x1 = iI x1) {n_x2 : Int32} {x2 : Int} (e_x2 : n_x2 = iI x2) {n_x3 : Int32} {x3 : Int} (e_x3 : n_x3 = iI x3) {n_x4 : Int32} {x4 : Int} (e_x4 : n_x4 = iI x4) {n_x5 : Int32} {x5 : Int} (e_x5 : n_x5 = iI x5), Si iI (N12_placeOf_3  n n_x1 n_x2 n_x3 n_x4 n_x5) (I12_placeOf_3  n x1 x2 x3 x4 x5) := by
  intro n
  induction n with
  | zero => intro n_x1 x1 e_x1 n_x2 x2 e_x2 n_x3 x3 e_x3 n_x4 x4 e_x4 n_x5 x5 e_x5; exact si_nf
  | succ n ih => intro n_x1 x1 e_x1 n_x2 x2 e_x2 n_x3 x3 e_x3 n_x4 x4 e_x4 n_x5 x5 e_x5; exact v_N12_placeOf_3_st  (ih) e_x1 e_x2 e_x3 e_x4 e_x5
def I12_placeOf (a1 : Int) (a2 : Int) (a3 : Int) (a4 : Int) : IM Int :=
  (I12_placeOf_3 LFU a1 a2 a3 a4 0)
theorem v_N12_placeOf  {n_a1 : Int32} {a1 : Int} (e_a1 : n_a1 = iI a1) {n_a2 : Int32} {a2 : Int} (e_a2 : n_a2 = iI a2) {n_a3 : Int32} {a3 : Int} (e_a3 : n_a3 = iI a3) {n_a4 : Int32} {a4 : Int} (e_a4 : n_a4 = iI a4) : Si iI (N12_placeOf  n_a1 n_a2 n_a3 n_a4) (I12_placeOf  a1 a2 a3 a4) := by
  subst e_a1
  subst e_a2
  subst e_a3
  subst e_a4
  unfold N12_placeOf I12_placeOf
  exact (v_N12_placeOf_3 LFU rfl rfl rfl rfl (eLit 0))
def I12_isPlain (a1 : Int) (a2 : Int) : IM Int :=
  ib (iaI 14 ((a1 * 400) + a2)) fun v1 =>
  ig (R32 v1) <|
  if v1 = 0 then (ib (iaI 12 ((a1 * 400) + a2)) fun v2 =>
  ib (iaI 13 ((a1 * 400) + a2)) fun v3 =>
  ib (I12_spot a1 v2 v3) fun v4 =>
  ib (iaI 9 v4) fun v5 =>
  ig (R32 v5) <|
  if v5 = 0 then (ir 1) else (ir 0)) else (ir 0)
theorem v_N12_isPlain  {n_a1 : Int32} {a1 : Int} (e_a1 : n_a1 = iI a1) {n_a2 : Int32} {a2 : Int} (e_a2 : n_a2 = iI a2) : Si iI (N12_isPlain  n_a1 n_a2) (I12_isPlain  a1 a2) := by
  subst e_a1
  subst e_a2
  unfold N12_isPlain I12_isPlain
  refine si_b (si_aI (eAdd (eMul rfl (eLit 400)) rfl)) fun v1 => ?_
  refine si_ig fun h1 => ?_
  refine si_ite (cEq rfl (eLit 0) ⟨h1, (by decide)⟩) ?_ ?_
  · refine si_b (si_aI (eAdd (eMul rfl (eLit 400)) rfl)) fun v2 => ?_
    refine si_b (si_aI (eAdd (eMul rfl (eLit 400)) rfl)) fun v3 => ?_
    refine si_b (v_N12_spot rfl rfl rfl) fun v4 => ?_
    refine si_b (si_aI rfl) fun v5 => ?_
    refine si_ig fun h2 => ?_
    refine si_ite (cEq rfl (eLit 0) ⟨h2, (by decide)⟩) ?_ ?_
    · exact si_re (eLit 1)
    · exact si_re (eLit 0)
  · exact si_re (eLit 0)
def I12_conjugate (a1 : Int) (a2 : Int) : IM Int :=
  ib (iaI 12 ((a1 * 400) + a2)) fun v1 =>
  ib (iaI 8 ((a1 * 71) + v1)) fun v2 =>
  ib (iaI 13 ((a1 * 400) + a2)) fun v3 =>
  ib (I12_isPlain a1 a2) fun v4 =>
  ig (R32 v4) <|
  if v4 = 0 then (ir (-1)) else (ib (iaI 13 ((a1 * 400) + a2)) fun v5 =>
  ig (R32 ((v2 + 1) - v3)) <|
  ig (R32 v5) <|
  if ((v2 + 1) - v3) = v5 then (ir (-1)) else (ib (iaI 7 ((a1 * 71) + v1)) fun v6 =>
  ib (I12_placeOf a1 v6 ((v2 + 1) - v3) 0) fun v7 =>
  ig (R32 v7) <|
  if v7 < 0 then (ir (-1)) else (ib (I12_isPlain a1 v7) fun v8 =>
  ig (R32 v8) <|
  if v8 = 0 then (ir (-1)) else (ir v7))))
theorem v_N12_conjugate  {n_a1 : Int32} {a1 : Int} (e_a1 : n_a1 = iI a1) {n_a2 : Int32} {a2 : Int} (e_a2 : n_a2 = iI a2) : Si iI (N12_conjugate  n_a1 n_a2) (I12_conjugate  a1 a2) := by
  subst e_a1
  subst e_a2
  unfold N12_conjugate I12_conjugate
  refine si_b (si_aI (eAdd (eMul rfl (eLit 400)) rfl)) fun v1 => ?_
  refine si_b (si_aI (eAdd (eMul rfl (eLit 71)) rfl)) fun v2 => ?_
  refine si_b (si_aI (eAdd (eMul rfl (eLit 400)) rfl)) fun v3 => ?_
  refine si_b (v_N12_isPlain rfl rfl) fun v4 => ?_
  refine si_ig fun h1 => ?_
  refine si_ite (cEq rfl (eLit 0) ⟨h1, (by decide)⟩) ?_ ?_
  · exact si_re (eLn 1)
  · refine si_b (si_aI (eAdd (eMul rfl (eLit 400)) rfl)) fun v5 => ?_
    refine si_ig fun h2 => ?_
    refine si_ig fun h3 => ?_
    refine si_ite (cEq (eSub (eAdd rfl (eLit 1)) rfl) rfl ⟨h2, h3⟩) ?_ ?_
    · exact si_re (eLn 1)
    · refine si_b (si_aI (eAdd (eMul rfl (eLit 71)) rfl)) fun v6 => ?_
      refine si_b (v_N12_placeOf rfl rfl (eSub (eAdd rfl (eLit 1)) rfl) (eLit 0)) fun v7 => ?_
      refine si_ig fun h4 => ?_
      refine si_ite (cLt rfl (eLit 0) ⟨h4, (by decide)⟩) ?_ ?_
      · exact si_re (eLn 1)
      · refine si_b (v_N12_isPlain rfl rfl) fun v8 => ?_
        refine si_ig fun h5 => ?_
        refine si_ite (cEq rfl (eLit 0) ⟨h5, (by decide)⟩) ?_ ?_
        · exact si_re (eLn 1)
        · exact si_re rfl
def I12_isSpelled_60 (k24 : Nat → Int → Int → IM Int) (x1 : Nat) (x3 : Int) (y0 : Int) : IM Int :=
  (k24 x1 y0 (x3 + 1))
theorem v_N12_isSpelled_60 {n_k24 : Nat → Int32 → Int32 → NM Int32} {k24 : Nat → Int → Int → IM Int} (hk24 : ∀ (z0 : Nat) {n1 : Int32} {z1 : Int} (_ : n1 = iI z1) {n2 : Int32} {z2 : Int} (_ : n2 = iI z2), Si iI (n_k24 z0 n1 n2) (k24 z0 z1 z2)) (x1 : Nat) {n_x3 : Int32} {x3 : Int} (e_x3 : n_x3 = iI x3) {n_y0 : Int32} {y0 : Int} (e_y0 : n_y0 = iI y0) : Si iI (N12_isSpelled_60 n_k24 x1 n_x3 n_y0) (I12_isSpelled_60 k24 x1 x3 y0) := by
  subst e_x3
  subst e_y0
  unfold N12_isSpelled_60 I12_isSpelled_60
  exact (hk24 x1 rfl (eAdd rfl (eLit 1)))
def I12_isSpelled_24_st (k24 : Nat → Int → Int → IM Int) (x1 : Nat) (x2 : Int) (x3 : Int) : IM Int :=
  ib (iSl x1) fun v1 =>
  ig (R32 v1) <|
  ig (R32 x3) <|
  if v1 ≤ x3 then (ib (inz x2) fun v2 =>
  ir v2) else (ig (R32 x2) <|
  if x2 = 0 then (ib (inz x2) fun v3 =>
  ir v3) else (ib (igI 20) fun v4 =>
  ib (iaI 0 (v4 + x3)) fun v5 =>
  ib (iSc x1 x3) fun v6 =>
  ig (R32 v5) <|
  ig (R32 v6) <|
  if v5 = v6 then ((I12_isSpelled_60 k24 x1 x3 1)) else ((I12_isSpelled_60 k24 x1 x3 0))))
theorem v_N12_isSpelled_24_st {n_k24 : Nat → Int32 → Int32 → NM Int32} {k24 : Nat → Int → Int → IM Int} (hk24 : ∀ (z0 : Nat) {n1 : Int32} {z1 : Int} (_ : n1 = iI z1) {n2 : Int32} {z2 : Int} (_ : n2 = iI z2), Si iI (n_k24 z0 n1 n2) (k24 z0 z1 z2)) (x1 : Nat) {n_x2 : Int32} {x2 : Int} (e_x2 : n_x2 = iI x2) {n_x3 : Int32} {x3 : Int} (e_x3 : n_x3 = iI x3) : Si iI (N12_isSpelled_24_st n_k24 x1 n_x2 n_x3) (I12_isSpelled_24_st k24 x1 x2 x3) := by
  subst e_x2
  subst e_x3
  unfold N12_isSpelled_24_st I12_isSpelled_24_st
  refine si_b si_Sl fun v1 => ?_
  refine si_ig fun h1 => ?_
  refine si_ig fun h2 => ?_
  refine si_ite (cLe rfl rfl ⟨h1, h2⟩) ?_ ?_
  · refine si_b (si_nz rfl) fun v2 => ?_
    exact si_re rfl
  · refine si_ig fun h3 => ?_
    refine si_ite (cEq rfl (eLit 0) ⟨h3, (by decide)⟩) ?_ ?_
    · refine si_b (si_nz rfl) fun v3 => ?_
      exact si_re rfl
    · refine si_b si_gI fun v4 => ?_
      refine si_b (si_aI (eAdd rfl rfl)) fun v5 => ?_
      refine si_b (si_Sc rfl) fun v6 => ?_
      refine si_ig fun h4 => ?_
      refine si_ig fun h5 => ?_
      refine si_ite (cEq rfl rfl ⟨h4, h5⟩) ?_ ?_
      · exact (v_N12_isSpelled_60 hk24 x1 rfl (eLit 1))
      · exact (v_N12_isSpelled_60 hk24 x1 rfl (eLit 0))
def I12_isSpelled_24 : Nat → Nat → Int → Int → IM Int
  | 0 => fun _ _ _ => nof
  | n + 1 => fun x1 x2 x3 => I12_isSpelled_24_st  (I12_isSpelled_24  n) x1 x2 x3
theorem v_N12_isSpelled_24  : ∀ (n : Nat) (x1 : Nat) {n_x2 : Int32} {x2 : Int} (e_x2 : n_x2 = iI x2) {n_x3 : Int32} {x3 : Int} (e_x3 : n_x3 = iI x3), Si iI (N12_isSpelled_24  n x1 n_x2 n_x3) (I12_isSpelled_24  n x1 x2 x3) := by
  intro n
  induction n with
  | zero => intro x1 n_x2 x2 e_x2 n_x3 x3 e_x3; exact si_nf
  | succ n ih => intro x1 n_x2 x2 e_x2 n_x3 x3 e_x3; exact v_N12_isSpelled_24_st  (ih) x1 e_x2 e_x3
def I12_isSpelled_21 (x1 : Nat) (y0 : Int) : IM Int :=
  (I12_isSpelled_24 LFU x1 y0 0)
theorem v_N12_isSpelled_21  (x1 : Nat) {n_y0 : Int32} {y0 : Int} (e_y0 : n_y0 = iI y0) : Si iI (N12_isSpelled_21  x1 n_y0) (I12_isSpelled_21  x1 y0) := by
  subst e_y0
  unfold N12_isSpelled_21 I12_isSpelled_21
  exact (v_N12_isSpelled_24 LFU x1 rfl (eLit 0))
def I12_isSpelled (a1 : Nat) : IM Int :=
  ib (igI 19) fun v1 =>
  ib (igI 20) fun v2 =>
  ib (iSl a1) fun v3 =>
  ig (R32 (v1 - v2)) <|
  ig (R32 v3) <|
  if (v1 - v2) = v3 then ((I12_isSpelled_21 a1 1)) else ((I12_isSpelled_21 a1 0))
theorem v_N12_isSpelled  (a1 : Nat) : Si iI (N12_isSpelled  a1) (I12_isSpelled  a1) := by
  unfold N12_isSpelled I12_isSpelled
  refine si_b si_gI fun v1 => ?_
  refine si_b si_gI fun v2 => ?_
  refine si_b si_Sl fun v3 => ?_
  refine si_ig fun h1 => ?_
  refine si_ig fun h2 => ?_
  refine si_ite (cEq (eSub rfl rfl) rfl ⟨h1, h2⟩) ?_ ?_
  · exact (v_N12_isSpelled_21 a1 (eLit 1))
  · exact (v_N12_isSpelled_21 a1 (eLit 0))
def I12_signHere_87 (x1 : Int) (x2 : Int) : IM Int :=
  ig (R32 x1) <|
  if x1 < 0 then (ir (-1)) else (ig (R32 x2) <|
  if x2 ≤ 3 then (ir ((1 + (23 * (x2 - 1))) + x1)) else (ir (-1)))
theorem v_N12_signHere_87  {n_x1 : Int32} {x1 : Int} (e_x1 : n_x1 = iI x1) {n_x2 : Int32} {x2 : Int} (e_x2 : n_x2 = iI x2) : Si iI (N12_signHere_87  n_x1 n_x2) (I12_signHere_87  x1 x2) := by
  subst e_x1
  subst e_x2
  unfold N12_signHere_87 I12_signHere_87
  refine si_ig fun h1 => ?_
  refine si_ite (cLt rfl (eLit 0) ⟨h1, (by decide)⟩) ?_ ?_
  · exact si_re (eLn 1)
  · refine si_ig fun h2 => ?_
    refine si_ite (cLe rfl (eLit 3) ⟨h2, (by decide)⟩) ?_ ?_
    · exact si_re (eAdd (eAdd (eLit 1) (eMul (eLit 23) (eSub rfl (eLit 1)))) rfl)
    · exact si_re (eLn 1)
def I12_signHere_53_st (k53 : Int → Int → Int → IM Int) (x1 : Int) (x2 : Int) (x3 : Int) : IM Int :=
  ib (igI 19) fun v1 =>
  ig (R32 v1) <|
  ig (R32 x3) <|
  if v1 ≤ x3 then ((I12_signHere_87 x1 x2)) else (ib (iaI 0 x3) fun v2 =>
  ib (igI 20) fun v3 =>
  ib (iaI 0 v3) fun v4 =>
  ig (R32 v2) <|
  ig (R32 v4) <|
  if v2 = v4 then ((k53 x1 x2 (x3 + 1))) else (ir (-1)))
theorem v_N12_signHere_53_st {n_k53 : Int32 → Int32 → Int32 → NM Int32} {k53 : Int → Int → Int → IM Int} (hk53 : ∀ {n0 : Int32} {z0 : Int} (_ : n0 = iI z0) {n1 : Int32} {z1 : Int} (_ : n1 = iI z1) {n2 : Int32} {z2 : Int} (_ : n2 = iI z2), Si iI (n_k53 n0 n1 n2) (k53 z0 z1 z2)) {n_x1 : Int32} {x1 : Int} (e_x1 : n_x1 = iI x1) {n_x2 : Int32} {x2 : Int} (e_x2 : n_x2 = iI x2) {n_x3 : Int32} {x3 : Int} (e_x3 : n_x3 = iI x3) : Si iI (N12_signHere_53_st n_k53 n_x1 n_x2 n_x3) (I12_signHere_53_st k53 x1 x2 x3) := by
  subst e_x1
  subst e_x2
  subst e_x3
  unfold N12_signHere_53_st I12_signHere_53_st
  refine si_b si_gI fun v1 => ?_
  refine si_ig fun h1 => ?_
  refine si_ig fun h2 => ?_
  refine si_ite (cLe rfl rfl ⟨h1, h2⟩) ?_ ?_
  · exact (v_N12_signHere_87 rfl rfl)
  · refine si_b (si_aI rfl) fun v2 => ?_
    refine si_b si_gI fun v3 => ?_
    refine si_b (si_aI rfl) fun v4 => ?_
    refine si_ig fun h3 => ?_
    refine si_ig fun h4 => ?_
    refine si_ite (cEq rfl rfl ⟨h3, h4⟩) ?_ ?_
    · exact (hk53 rfl rfl (eAdd rfl (eLit 1)))
    · exact si_re (eLn 1)
def I12_signHere_53 : Nat → Int → Int → Int → IM Int
  | 0 => fun _ _ _ => nof
  | n + 1 => fun x1 x2 x3 => I12_signHere_53_st  (I12_signHere_53  n) x1 x2 x3
theorem v_N12_signHere_53  : ∀ (n : Nat) {n_x1 : Int32} {x1 : Int} (e_x1 : n_x1 = iI x1) {n_x2 : Int32} {x2 : Int} (e_x2 : n_x2 = iI x2) {n_x3 : Int32} {x3 : Int} (e_x3 : n_x3 = iI x3), Si iI (N12_signHere_53  n n_x1 n_x2 n_x3) (I12_signHere_53  n x1 x2 x3) := by
  intro n
  induction n with
  | zero => intro n_x1 x1 e_x1 n_x2 x2 e_x2 n_x3 x3 e_x3; exact si_nf
  | succ n ih => intro n_x1 x1 e_x1 n_x2 x2 e_x2 n_x3 x3 e_x3; exact v_N12_signHere_53_st  (ih) e_x1 e_x2 e_x3
def I12_signHere : IM Int :=
  ib (I12_isSpelled 10) fun v1 =>
  ig (R32 v1) <|
  if v1 = 0 then (ib (I12_isSpelled 11) fun v2 =>
  ig (R32 v2) <|
  if v2 = 0 then (ib (igI 20) fun v3 =>
  ib (iaI 0 v3) fun v4 =>
  ib (iSi 12 v4) fun v5 =>
  ib (igI 19) fun v6 =>
  ib (igI 20) fun v7 =>
  ib (igI 20) fun v8 =>
  (I12_signHere_53 LFU v5 (v6 - v7) v8)) else (ir 70)) else (ir 0)
theorem v_N12_signHere  : Si iI (N12_signHere  ) (I12_signHere  ) := by
  unfold N12_signHere I12_signHere
  refine si_b (v_N12_isSpelled 10) fun v1 => ?_
  refine si_ig fun h1 => ?_
  refine si_ite (cEq rfl (eLit 0) ⟨h1, (by decide)⟩) ?_ ?_
  · refine si_b (v_N12_isSpelled 11) fun v2 => ?_
    refine si_ig fun h2 => ?_
    refine si_ite (cEq rfl (eLit 0) ⟨h2, (by decide)⟩) ?_ ?_
    · refine si_b si_gI fun v3 => ?_
      refine si_b (si_aI rfl) fun v4 => ?_
      refine si_b (si_Si rfl) fun v5 => ?_
      refine si_b si_gI fun v6 => ?_
      refine si_b si_gI fun v7 => ?_
      refine si_b si_gI fun v8 => ?_
      exact (v_N12_signHere_53 LFU rfl (eSub rfl rfl) rfl)
    · exact si_re (eLit 70)
  · exact si_re (eLit 0)
def I12_next_132 : IM Unit :=
  ib I12_signHere fun v1 =>
  ib (ipI 22 v1) fun _ =>
  ib (igI 22) fun v2 =>
  ig (R32 v2) <|
  if 0 ≤ v2 then (ib (ipI 21 2) fun _ =>
  ir ()) else (ib (ipI 21 1) fun _ =>
  ir ())
theorem v_N12_next_132  : Si (fun x : Unit => x) (N12_next_132  ) (I12_next_132  ) := by
  unfold N12_next_132 I12_next_132
  refine si_b v_N12_signHere fun v1 => ?_
  refine si_b (si_pI rfl) fun _ => ?_
  refine si_b si_gI fun v2 => ?_
  refine si_ig fun h1 => ?_
  refine si_ite (cLe (eLit 0) rfl ⟨(by decide), h1⟩) ?_ ?_
  · refine si_b (si_pI (eLit 2)) fun _ => ?_
    exact si_rn
  · refine si_b (si_pI (eLit 1)) fun _ => ?_
    exact si_rn
def I12_next_89_st (k89 : IM Unit) : IM Unit :=
  ib (igI 19) fun v1 =>
  ib (igI 1) fun v2 =>
  ig (R32 v2) <|
  ig (R32 v1) <|
  if v2 ≤ v1 then (I12_next_132) else (ib (igI 19) fun v3 =>
  ib (iaI 0 v3) fun v4 =>
  ib (I12_isIn v4 97 122) fun v5 =>
  ig (R32 v5) <|
  if v5 = 0 then (I12_next_132) else (ib (igI 19) fun v6 =>
  ib (ipI 19 (v6 + 1)) fun _ =>
  k89))
theorem v_N12_next_89_st {n_k89 : NM Unit} {k89 : IM Unit} (hk89 : Si (fun x : Unit => x) (n_k89 ) (k89 )) : Si (fun x : Unit => x) (N12_next_89_st n_k89 ) (I12_next_89_st k89 ) := by
  unfold N12_next_89_st I12_next_89_st
  refine si_b si_gI fun v1 => ?_
  refine si_b si_gI fun v2 => ?_
  refine si_ig fun h1 => ?_
  refine si_ig fun h2 => ?_
  refine si_ite (cLe rfl rfl ⟨h1, h2⟩) ?_ ?_
  · exact v_N12_next_132
  · refine si_b si_gI fun v3 => ?_
    refine si_b (si_aI rfl) fun v4 => ?_
    refine si_b (v_N12_isIn rfl (eLit 97) (eLit 122)) fun v5 => ?_
    refine si_ig fun h3 => ?_
    refine si_ite (cEq rfl (eLit 0) ⟨h3, (by decide)⟩) ?_ ?_
    · exact v_N12_next_132
    · refine si_b si_gI fun v6 => ?_
      refine si_b (si_pI (eAdd rfl (eLit 1))) fun _ => ?_
      exact hk89
def I12_next_89 : Nat → IM Unit
  | 0 => nof
  | n + 1 => I12_next_89_st  (I12_next_89  n) 
theorem v_N12_next_89  : ∀ (n : Nat), Si (fun x : Unit => x) (N12_next_89  n ) (I12_next_89  n ) := by
  intro n
  induction n with
  | zero => exact si_nf
  | succ n ih => exact v_N12_next_89_st  (ih) 
def I12_next_237 (k170 : IM Unit) : IM Unit :=
  ib (igI 19) fun v1 =>
  ib (ipI 19 (v1 + 1)) fun _ =>
  k170
theorem v_N12_next_237 {n_k170 : NM Unit} {k170 : IM Unit} (hk170 : Si (fun x : Unit => x) (n_k170 ) (k170 )) : Si (fun x : Unit => x) (N12_next_237 n_k170 ) (I12_next_237 k170 ) := by
  unfold N12_next_237 I12_next_237
  refine si_b si_gI fun v1 => ?_
  refine si_b (si_pI (eAdd rfl (eLit 1))) fun _ => ?_
  exact hk170
def I12_next_250 : IM Unit :=
  ib (igI 19) fun v1 =>
  ib (igI 20) fun v2 =>
  ig (R32 (v1 - v2)) <|
  if (v1 - v2) ≤ 3 then (ib (ipI 21 3) fun _ =>
  ir ()) else (ib (ipI 21 1) fun _ =>
  ir ())
theorem v_N12_next_250  : Si (fun x : Unit => x) (N12_next_250  ) (I12_next_250  ) := by
  unfold N12_next_250 I12_next_250
  refine si_b si_gI fun v1 => ?_
  refine si_b si_gI fun v2 => ?_
  refine si_ig fun h1 => ?_
  refine si_ite (cLe (eSub rfl rfl) (eLit 3) ⟨h1, (by decide)⟩) ?_ ?_
  · refine si_b (si_pI (eLit 3)) fun _ => ?_
    exact si_rn
  · refine si_b (si_pI (eLit 1)) fun _ => ?_
    exact si_rn
def I12_next_170_st (k170 : IM Unit) : IM Unit :=
  ib (igI 19) fun v1 =>
  ib (igI 1) fun v2 =>
  ig (R32 v2) <|
  ig (R32 v1) <|
  if v2 ≤ v1 then (I12_next_250) else (ib (igI 19) fun v3 =>
  ib (iaI 0 v3) fun v4 =>
  ib (I12_isIn v4 48 57) fun v5 =>
  ig (R32 v5) <|
  if v5 = 0 then (I12_next_250) else (ib (igI 19) fun v6 =>
  ib (igI 20) fun v7 =>
  ig (R32 (v6 - v7)) <|
  if 3 ≤ (v6 - v7) then (I12_next_237 k170) else (ib (igI 22) fun v8 =>
  ib (igI 19) fun v9 =>
  ib (iaI 0 v9) fun v10 =>
  ib (ipI 22 (((10 * v8) + v10) - 48)) fun _ =>
  I12_next_237 k170)))
theorem v_N12_next_170_st {n_k170 : NM Unit} {k170 : IM Unit} (hk170 : Si (fun x : Unit => x) (n_k170 ) (k170 )) : Si (fun x : Unit => x) (N12_next_170_st n_k170 ) (I12_next_170_st k170 ) := by
  unfold N12_next_170_st I12_next_170_st
  refine si_b si_gI fun v1 => ?_
  refine si_b si_gI fun v2 => ?_
  refine si_ig fun h1 => ?_
  refine si_ig fun h2 => ?_
  refine si_ite (cLe rfl rfl ⟨h1, h2⟩) ?_ ?_
  · exact v_N12_next_250
  · refine si_b si_gI fun v3 => ?_
    refine si_b (si_aI rfl) fun v4 => ?_
    refine si_b (v_N12_isIn rfl (eLit 48) (eLit 57)) fun v5 => ?_
    refine si_ig fun h3 => ?_
    refine si_ite (cEq rfl (eLit 0) ⟨h3, (by decide)⟩) ?_ ?_
    · exact v_N12_next_250
    · refine si_b si_gI fun v6 => ?_
      refine si_b si_gI fun v7 => ?_
      refine si_ig fun h4 => ?_
      refine si_ite (cLe (eLit 3) (eSub rfl rfl) ⟨(by decide), h4⟩) ?_ ?_
      · exact v_N12_next_237 hk170
      · refine si_b si_gI fun v8 => ?_
        refine si_b si_gI fun v9 => ?_
        refine si_b (si_aI rfl) fun v10 => ?_
        refine si_b (si_pI (eSub (eAdd (eMul (eLit 10) rfl) rfl) (eLit 48))) fun _ => ?_
        exact v_N12_next_237 hk170
def I12_next_170 : Nat → IM Unit
  | 0 => nof
  | n + 1 => I12_next_170_st  (I12_next_170  n) 
theorem v_N12_next_170  : ∀ (n : Nat), Si (fun x : Unit => x) (N12_next_170  n ) (I12_next_170  n ) := by
  intro n
  induction n with
  | zero => exact si_nf
  | succ n ih => exact v_N12_next_170_st  (ih) 
def I12_next_38 : IM Unit :=
  ib (igI 19) fun v1 =>
  ib (ipI 20 v1) fun _ =>
  ib (ipI 21 0) fun _ =>
  ib (ipI 22 0) fun _ =>
  ib (igI 19) fun v2 =>
  ib (igI 1) fun v3 =>
  ig (R32 v2) <|
  ig (R32 v3) <|
  if v2 = v3 then (ir ()) else (ib (igI 19) fun v4 =>
  ib (iaI 0 v4) fun v5 =>
  ib (I12_isIn v5 97 122) fun v6 =>
  ig (R32 v6) <|
  if v6 = 0 then (ib (I12_isIn v5 48 57) fun v7 =>
  ig (R32 v7) <|
  if v7 = 0 then (ib (igI 19) fun v8 =>
  ib (ipI 19 (v8 + 1)) fun _ =>
  ib (ipI 22 v5) fun _ =>
  ig (R32 v5) <|
  if v5 = 40 then (ib (ipI 21 4) fun _ =>
  ir ()) else (if v5 = 41 then (ib (ipI 21 4) fun _ =>
  ir ()) else (if v5 = 44 then (ib (ipI 21 4) fun _ =>
  ir ()) else (if v5 = 45 then (ib (ipI 21 4) fun _ =>
  ir ()) else (if v5 = 43 then (ib (ipI 21 4) fun _ =>
  ir ()) else (if v5 = 61 then (ib (ipI 21 4) fun _ =>
  ir ()) else (ib (ipI 21 1) fun _ =>
  ir ()))))))) else (I12_next_170 LFU)) else (I12_next_89 LFU))
theorem v_N12_next_38  : Si (fun x : Unit => x) (N12_next_38  ) (I12_next_38  ) := by
  unfold N12_next_38 I12_next_38
  refine si_b si_gI fun v1 => ?_
  refine si_b (si_pI rfl) fun _ => ?_
  refine si_b (si_pI (eLit 0)) fun _ => ?_
  refine si_b (si_pI (eLit 0)) fun _ => ?_
  refine si_b si_gI fun v2 => ?_
  refine si_b si_gI fun v3 => ?_
  refine si_ig fun h1 => ?_
  refine si_ig fun h2 => ?_
  refine si_ite (cEq rfl rfl ⟨h1, h2⟩) ?_ ?_
  · exact si_rn
  · refine si_b si_gI fun v4 => ?_
    refine si_b (si_aI rfl) fun v5 => ?_
    refine si_b (v_N12_isIn rfl (eLit 97) (eLit 122)) fun v6 => ?_
    refine si_ig fun h3 => ?_
    refine si_ite (cEq rfl (eLit 0) ⟨h3, (by decide)⟩) ?_ ?_
    · refine si_b (v_N12_isIn rfl (eLit 48) (eLit 57)) fun v7 => ?_
      refine si_ig fun h4 => ?_
      refine si_ite (cEq rfl (eLit 0) ⟨h4, (by decide)⟩) ?_ ?_
      · refine si_b si_gI fun v8 => ?_
        refine si_b (si_pI (eAdd rfl (eLit 1))) fun _ => ?_
        refine si_b (si_pI rfl) fun _ => ?_
        refine si_ig fun h5 => ?_
        refine si_ite (cEq rfl (eLit 40) ⟨h5, (by decide)⟩) ?_ ?_
        · refine si_b (si_pI (eLit 4)) fun _ => ?_
          exact si_rn
        · refine si_ite (cEq rfl (eLit 41) ⟨h5, (by decide)⟩) ?_ ?_
          · refine si_b (si_pI (eLit 4)) fun _ => ?_
            exact si_rn
          · refine si_ite (cEq rfl (eLit 44) ⟨h5, (by decide)⟩) ?_ ?_
            · refine si_b (si_pI (eLit 4)) fun _ => ?_
              exact si_rn
            · refine si_ite (cEq rfl (eLit 45) ⟨h5, (by decide)⟩) ?_ ?_
              · refine si_b (si_pI (eLit 4)) fun _ => ?_
                exact si_rn
              · refine si_ite (cEq rfl (eLit 43) ⟨h5, (by decide)⟩) ?_ ?_
                · refine si_b (si_pI (eLit 4)) fun _ => ?_
                  exact si_rn
                · refine si_ite (cEq rfl (eLit 61) ⟨h5, (by decide)⟩) ?_ ?_
                  · refine si_b (si_pI (eLit 4)) fun _ => ?_
                    exact si_rn
                  · refine si_b (si_pI (eLit 1)) fun _ => ?_
                    exact si_rn
      · exact v_N12_next_170 LFU
    · exact v_N12_next_89 LFU
def I12_next_0_st (k0 : IM Unit) : IM Unit :=
  ib (igI 19) fun v1 =>
  ib (igI 1) fun v2 =>
  ig (R32 v2) <|
  ig (R32 v1) <|
  if v2 ≤ v1 then (I12_next_38) else (ib (igI 19) fun v3 =>
  ib (iaI 0 v3) fun v4 =>
  ig (R32 v4) <|
  if v4 = 32 then (ib (igI 19) fun v5 =>
  ib (ipI 19 (v5 + 1)) fun _ =>
  k0) else (I12_next_38))
theorem v_N12_next_0_st {n_k0 : NM Unit} {k0 : IM Unit} (hk0 : Si (fun x : Unit => x) (n_k0 ) (k0 )) : Si (fun x : Unit => x) (N12_next_0_st n_k0 ) (I12_next_0_st k0 ) := by
  unfold N12_next_0_st I12_next_0_st
  refine si_b si_gI fun v1 => ?_
  refine si_b si_gI fun v2 => ?_
  refine si_ig fun h1 => ?_
  refine si_ig fun h2 => ?_
  refine si_ite (cLe rfl rfl ⟨h1, h2⟩) ?_ ?_
  · exact v_N12_next_38
  · refine si_b si_gI fun v3 => ?_
    refine si_b (si_aI rfl) fun v4 => ?_
    refine si_ig fun h3 => ?_
    refine si_ite (cEq rfl (eLit 32) ⟨h3, (by decide)⟩) ?_ ?_
    · refine si_b si_gI fun v5 => ?_
      refine si_b (si_pI (eAdd rfl (eLit 1))) fun _ => ?_
      exact hk0
    · exact v_N12_next_38
def I12_next_0 : Nat → IM Unit
  | 0 => nof
  | n + 1 => I12_next_0_st  (I12_next_0  n) 
theorem v_N12_next_0  : ∀ (n : Nat), Si (fun x : Unit => x) (N12_next_0  n ) (I12_next_0  n ) := by
  intro n
  induction n with
  | zero => exact si_nf
  | succ n ih => exact v_N12_next_0_st  (ih) 
def I12_next : IM Unit :=
  I12_next_0 LFU
theorem v_N12_next  : Si (fun x : Unit => x) (N12_next  ) (I12_next  ) := by
  unfold N12_next I12_next
  exact v_N12_next_0 LFU
def I12_isMark (a1 : Int) : IM Int :=
  ib (igI 21) fun v1 =>
  ig (R32 v1) <|
  if v1 = 4 then (ib (igI 22) fun v2 =>
  ig (R32 v2) <|
  ig (R32 a1) <|
  if v2 = a1 then (ir 1) else (ir 0)) else (ir 0)
theorem v_N12_isMark  {n_a1 : Int32} {a1 : Int} (e_a1 : n_a1 = iI a1) : Si iI (N12_isMark  n_a1) (I12_isMark  a1) := by
  subst e_a1
  unfold N12_isMark I12_isMark
  refine si_b si_gI fun v1 => ?_
  refine si_ig fun h1 => ?_
  refine si_ite (cEq rfl (eLit 4) ⟨h1, (by decide)⟩) ?_ ?_
  · refine si_b si_gI fun v2 => ?_
    refine si_ig fun h2 => ?_
    refine si_ig fun h3 => ?_
    refine si_ite (cEq rfl rfl ⟨h2, h3⟩) ?_ ?_
    · exact si_re (eLit 1)
    · exact si_re (eLit 0)
  · exact si_re (eLit 0)
def I12_take_21 (y0 : Int) : IM Int :=
  ib (ipZ 23 y0) fun _ =>
  ib (igI 23) fun v1 =>
  ig (R32 v1) <|
  if v1 = 0 then (ir 0) else (ib (igI 22) fun v2 =>
  ib I12_next fun _ =>
  ir v2)
theorem v_N12_take_21  {n_y0 : Int32} {y0 : Int} (e_y0 : n_y0 = iI y0) : Si iI (N12_take_21  n_y0) (I12_take_21  y0) := by
  subst e_y0
  unfold N12_take_21 I12_take_21
  refine si_b (si_pZ rfl) fun _ => ?_
  refine si_b si_gI fun v1 => ?_
  refine si_ig fun h1 => ?_
  refine si_ite (cEq rfl (eLit 0) ⟨h1, (by decide)⟩) ?_ ?_
  · exact si_re (eLit 0)
  · refine si_b si_gI fun v2 => ?_
    refine si_b v_N12_next fun _ => ?_
    exact si_re rfl
def I12_take_20 : IM Int :=
  (I12_take_21 0)
theorem v_N12_take_20  : Si iI (N12_take_20  ) (I12_take_20  ) := by
  unfold N12_take_20 I12_take_20
  exact (v_N12_take_21 (eLit 0))
def I12_take (a1 : Int) : IM Int :=
  ib (igI 23) fun v1 =>
  ig (R32 v1) <|
  if v1 = 0 then (I12_take_20) else (ib (igI 21) fun v2 =>
  ig (R32 v2) <|
  ig (R32 a1) <|
  if v2 = a1 then ((I12_take_21 1)) else (I12_take_20))
theorem v_N12_take  {n_a1 : Int32} {a1 : Int} (e_a1 : n_a1 = iI a1) : Si iI (N12_take  n_a1) (I12_take  a1) := by
  subst e_a1
  unfold N12_take I12_take
  refine si_b si_gI fun v1 => ?_
  refine si_ig fun h1 => ?_
  refine si_ite (cEq rfl (eLit 0) ⟨h1, (by decide)⟩) ?_ ?_
  · exact v_N12_take_20
  · refine si_b si_gI fun v2 => ?_
    refine si_ig fun h2 => ?_
    refine si_ig fun h3 => ?_
    refine si_ite (cEq rfl rfl ⟨h2, h3⟩) ?_ ?_
    · exact (v_N12_take_21 (eLit 1))
    · exact v_N12_take_20
def I12_must_21 (y0 : Int) : IM Unit :=
  ib (ipZ 23 y0) fun _ =>
  ib (igI 23) fun v1 =>
  ig (R32 v1) <|
  if v1 = 0 then (ir ()) else (ib I12_next fun _ =>
  ir ())
theorem v_N12_must_21  {n_y0 : Int32} {y0 : Int} (e_y0 : n_y0 = iI y0) : Si (fun x : Unit => x) (N12_must_21  n_y0) (I12_must_21  y0) := by
  subst e_y0
  unfold N12_must_21 I12_must_21
  refine si_b (si_pZ rfl) fun _ => ?_
  refine si_b si_gI fun v1 => ?_
  refine si_ig fun h1 => ?_
  refine si_ite (cEq rfl (eLit 0) ⟨h1, (by decide)⟩) ?_ ?_
  · exact si_rn
  · refine si_b v_N12_next fun _ => ?_
    exact si_rn
def I12_must_20 : IM Unit :=
  (I12_must_21 0)
theorem v_N12_must_20  : Si (fun x : Unit => x) (N12_must_20  ) (I12_must_20  ) := by
  unfold N12_must_20 I12_must_20
  exact (v_N12_must_21 (eLit 0))
def I12_must (a1 : Int) : IM Unit :=
  ib (igI 23) fun v1 =>
  ig (R32 v1) <|
  if v1 = 0 then (I12_must_20) else (ib (I12_isMark a1) fun v2 =>
  ig (R32 v2) <|
  if v2 = 0 then (I12_must_20) else ((I12_must_21 1)))
theorem v_N12_must  {n_a1 : Int32} {a1 : Int} (e_a1 : n_a1 = iI a1) : Si (fun x : Unit => x) (N12_must  n_a1) (I12_must  a1) := by
  subst e_a1
  unfold N12_must I12_must
  refine si_b si_gI fun v1 => ?_
  refine si_ig fun h1 => ?_
  refine si_ite (cEq rfl (eLit 0) ⟨h1, (by decide)⟩) ?_ ?_
  · exact v_N12_must_20
  · refine si_b (v_N12_isMark rfl) fun v2 => ?_
    refine si_ig fun h2 => ?_
    refine si_ite (cEq rfl (eLit 0) ⟨h2, (by decide)⟩) ?_ ?_
    · exact v_N12_must_20
    · exact (v_N12_must_21 (eLit 1))
def I12_goes_20 (y0 : Int) : IM Int :=
  ig (R32 y0) <|
  if y0 = 0 then (ib (inz y0) fun v1 =>
  ir v1) else (ib I12_next fun _ =>
  ib (inz y0) fun v2 =>
  ir v2)
theorem v_N12_goes_20  {n_y0 : Int32} {y0 : Int} (e_y0 : n_y0 = iI y0) : Si iI (N12_goes_20  n_y0) (I12_goes_20  y0) := by
  subst e_y0
  unfold N12_goes_20 I12_goes_20
  refine si_ig fun h1 => ?_
  refine si_ite (cEq rfl (eLit 0) ⟨h1, (by decide)⟩) ?_ ?_
  · refine si_b (si_nz rfl) fun v1 => ?_
    exact si_re rfl
  · refine si_b v_N12_next fun _ => ?_
    refine si_b (si_nz rfl) fun v2 => ?_
    exact si_re rfl
def I12_goes_19 : IM Int :=
  (I12_goes_20 0)
theorem v_N12_goes_19  : Si iI (N12_goes_19  ) (I12_goes_19  ) := by
  unfold N12_goes_19 I12_goes_19
  exact (v_N12_goes_20 (eLit 0))
def I12_goes (a1 : Int) : IM Int :=
  ib (igI 23) fun v1 =>
  ig (R32 v1) <|
  if v1 = 0 then (I12_goes_19) else (ib (I12_isMark a1) fun v2 =>
  ig (R32 v2) <|
  if v2 = 0 then (I12_goes_19) else ((I12_goes_20 1)))
theorem v_N12_goes  {n_a1 : Int32} {a1 : Int} (e_a1 : n_a1 = iI a1) : Si iI (N12_goes  n_a1) (I12_goes  a1) := by
  subst e_a1
  unfold N12_goes I12_goes
  refine si_b si_gI fun v1 => ?_
  refine si_ig fun h1 => ?_
  refine si_ite (cEq rfl (eLit 0) ⟨h1, (by decide)⟩) ?_ ?_
  · exact v_N12_goes_19
  · refine si_b (v_N12_isMark rfl) fun v2 => ?_
    refine si_ig fun h2 => ?_
    refine si_ite (cEq rfl (eLit 0) ⟨h2, (by decide)⟩) ?_ ?_
    · exact v_N12_goes_19
    · exact (v_N12_goes_20 (eLit 1))
def I12_begins : IM Unit :=
  ib (ipI 19 0) fun _ =>
  ib (ipZ 23 1) fun _ =>
  ib (ipI 4 0) fun _ =>
  ib I12_next fun _ =>
  ir ()
theorem v_N12_begins  : Si (fun x : Unit => x) (N12_begins  ) (I12_begins  ) := by
  unfold N12_begins I12_begins
  refine si_b (si_pI (eLit 0)) fun _ => ?_
  refine si_b (si_pZ (eLit 1)) fun _ => ?_
  refine si_b (si_pI (eLit 0)) fun _ => ?_
  refine si_b v_N12_next fun _ => ?_
  exact si_rn
def I12_ends_20 (y0 : Int) : IM Int :=
  ib (ipZ 23 y0) fun _ =>
  ib (igI 23) fun v1 =>
  ig (R32 v1) <|
  if v1 = 0 then (ib (igI 20) fun v2 =>
  ib (ipI 3 v2) fun _ =>
  ib (ipI 1 0) fun _ =>
  ib (igI 23) fun v3 =>
  ib (inz v3) fun v4 =>
  ir v4) else (ib (ipI 3 (-9)) fun _ =>
  ib (ipI 1 0) fun _ =>
  ib (igI 23) fun v5 =>
  ib (inz v5) fun v6 =>
  ir v6)
theorem v_N12_ends_20  {n_y0 : Int32} {y0 : Int} (e_y0 : n_y0 = iI y0) : Si iI (N12_ends_20  n_y0) (I12_ends_20  y0) := by
  subst e_y0
  unfold N12_ends_20 I12_ends_20
  refine si_b (si_pZ rfl) fun _ => ?_
  refine si_b si_gI fun v1 => ?_
  refine si_ig fun h1 => ?_
  refine si_ite (cEq rfl (eLit 0) ⟨h1, (by decide)⟩) ?_ ?_
  · refine si_b si_gI fun v2 => ?_
    refine si_b (si_pI rfl) fun _ => ?_
    refine si_b (si_pI (eLit 0)) fun _ => ?_
    refine si_b si_gI fun v3 => ?_
    refine si_b (si_nz rfl) fun v4 => ?_
    exact si_re rfl
  · refine si_b (si_pI (eLn 9)) fun _ => ?_
    refine si_b (si_pI (eLit 0)) fun _ => ?_
    refine si_b si_gI fun v5 => ?_
    refine si_b (si_nz rfl) fun v6 => ?_
    exact si_re rfl
def I12_ends_19 : IM Int :=
  (I12_ends_20 0)
theorem v_N12_ends_19  : Si iI (N12_ends_19  ) (I12_ends_19  ) := by
  unfold N12_ends_19 I12_ends_19
  exact (v_N12_ends_20 (eLit 0))
def I12_ends : IM Int :=
  ib (igI 23) fun v1 =>
  ig (R32 v1) <|
  if v1 = 0 then (I12_ends_19) else (ib (igI 21) fun v2 =>
  ig (R32 v2) <|
  if v2 = 0 then ((I12_ends_20 1)) else (I12_ends_19))
theorem v_N12_ends  : Si iI (N12_ends  ) (I12_ends  ) := by
  unfold N12_ends I12_ends
  refine si_b si_gI fun v1 => ?_
  refine si_ig fun h1 => ?_
  refine si_ite (cEq rfl (eLit 0) ⟨h1, (by decide)⟩) ?_ ?_
  · exact v_N12_ends_19
  · refine si_b si_gI fun v2 => ?_
    refine si_ig fun h2 => ?_
    refine si_ite (cEq rfl (eLit 0) ⟨h2, (by decide)⟩) ?_ ?_
    · exact (v_N12_ends_20 (eLit 1))
    · exact v_N12_ends_19
def I12_readChange_40 (x1 : Int) (y0 : Int) (y1 : Int) (y2 : Nat) : IM Unit :=
  ib (isI y2 y1 y0) fun _ =>
  ib (I12_take 2) fun v1 =>
  ib (isI 33 x1 v1) fun _ =>
  ib (I12_take 3) fun v2 =>
  ib (isI 34 x1 v2) fun _ =>
  ib (isI 35 x1 0) fun _ =>
  ib (iaI 32 x1) fun v3 =>
  ig (R32 v3) <|
  if v3 = 43 then (ib (I12_must 43) fun _ =>
  ib (I12_take 3) fun v4 =>
  ib (isI 35 x1 v4) fun _ =>
  ib (igI 25) fun v5 =>
  ib (ipI 25 (v5 + 1)) fun _ =>
  ir ()) else (ib (igI 25) fun v6 =>
  ib (ipI 25 (v6 + 1)) fun _ =>
  ir ())
theorem v_N12_readChange_40  {n_x1 : Int32} {x1 : Int} (e_x1 : n_x1 = iI x1) {n_y0 : Int32} {y0 : Int} (e_y0 : n_y0 = iI y0) {n_y1 : Int32} {y1 : Int} (e_y1 : n_y1 = iI y1) (y2 : Nat) : Si (fun x : Unit => x) (N12_readChange_40  n_x1 n_y0 n_y1 y2) (I12_readChange_40  x1 y0 y1 y2) := by
  subst e_x1
  subst e_y0
  subst e_y1
  unfold N12_readChange_40 I12_readChange_40
  refine si_b (si_sI rfl rfl) fun _ => ?_
  refine si_b (v_N12_take (eLit 2)) fun v1 => ?_
  refine si_b (si_sI rfl rfl) fun _ => ?_
  refine si_b (v_N12_take (eLit 3)) fun v2 => ?_
  refine si_b (si_sI rfl rfl) fun _ => ?_
  refine si_b (si_sI rfl (eLit 0)) fun _ => ?_
  refine si_b (si_aI rfl) fun v3 => ?_
  refine si_ig fun h1 => ?_
  refine si_ite (cEq rfl (eLit 43) ⟨h1, (by decide)⟩) ?_ ?_
  · refine si_b (v_N12_must (eLit 43)) fun _ => ?_
    refine si_b (v_N12_take (eLit 3)) fun v4 => ?_
    refine si_b (si_sI rfl rfl) fun _ => ?_
    refine si_b si_gI fun v5 => ?_
    refine si_b (si_pI (eAdd rfl (eLit 1))) fun _ => ?_
    exact si_rn
  · refine si_b si_gI fun v6 => ?_
    refine si_b (si_pI (eAdd rfl (eLit 1))) fun _ => ?_
    exact si_rn
def I12_readChange : IM Unit :=
  ib (igI 25) fun v1 =>
  ib (I12_goes 45) fun v2 =>
  ig (R32 v2) <|
  if v2 = 0 then (ib (I12_goes 61) fun v3 =>
  ig (R32 v3) <|
  if v3 = 0 then ((I12_readChange_40 v1 43 v1 32)) else ((I12_readChange_40 v1 61 v1 32))) else ((I12_readChange_40 v1 45 v1 32))
theorem v_N12_readChange  : Si (fun x : Unit => x) (N12_readChange  ) (I12_readChange  ) := by
  unfold N12_readChange I12_readChange
  refine si_b si_gI fun v1 => ?_
  refine si_b (v_N12_goes (eLit 45)) fun v2 => ?_
  refine si_ig fun h1 => ?_
  refine si_ite (cEq rfl (eLit 0) ⟨h1, (by decide)⟩) ?_ ?_
  · refine si_b (v_N12_goes (eLit 61)) fun v3 => ?_
    refine si_ig fun h2 => ?_
    refine si_ite (cEq rfl (eLit 0) ⟨h2, (by decide)⟩) ?_ ?_
    · exact (v_N12_readChange_40 rfl (eLit 43) rfl 32)
    · exact (v_N12_readChange_40 rfl (eLit 61) rfl 32)
  · exact (v_N12_readChange_40 rfl (eLit 45) rfl 32)
def I12_readChanges_4_st (k4 : IM Unit) : IM Unit :=
  ib (I12_goes 44) fun v1 =>
  ig (R32 v1) <|
  if v1 = 0 then (ir ()) else (ib I12_readChange fun _ =>
  k4)
theorem v_N12_readChanges_4_st {n_k4 : NM Unit} {k4 : IM Unit} (hk4 : Si (fun x : Unit => x) (n_k4 ) (k4 )) : Si (fun x : Unit => x) (N12_readChanges_4_st n_k4 ) (I12_readChanges_4_st k4 ) := by
  unfold N12_readChanges_4_st I12_readChanges_4_st
  refine si_b (v_N12_goes (eLit 44)) fun v1 => ?_
  refine si_ig fun h1 => ?_
  refine si_ite (cEq rfl (eLit 0) ⟨h1, (by decide)⟩) ?_ ?_
  · exact si_rn
  · refine si_b v_N12_readChange fun _ => ?_
    exact hk4
def I12_readChanges_4 : Nat → IM Unit
  | 0 => nof
  | n + 1 => I12_readChanges_4_st  (I12_readChanges_4  n) 
theorem v_N12_readChanges_4  : ∀ (n : Nat), Si (fun x : Unit => x) (N12_readChanges_4  n ) (I12_readChanges_4  n ) := by
  intro n
  induction n with
  | zero => exact si_nf
  | succ n ih => exact v_N12_readChanges_4_st  (ih) 
def I12_readChanges : IM Unit :=
  ib I12_readChange fun _ =>
  I12_readChanges_4 LFU
theorem v_N12_readChanges  : Si (fun x : Unit => x) (N12_readChanges  ) (I12_readChanges  ) := by
  unfold N12_readChanges I12_readChanges
  refine si_b v_N12_readChange fun _ => ?_
  exact v_N12_readChanges_4 LFU
def I12_readGroup_125 : IM Unit :=
  ib (igI 24) fun v1 =>
  ib (ipI 24 (v1 + 1)) fun _ =>
  ib (igI 24) fun v2 =>
  ib (igI 25) fun v3 =>
  ib (isI 31 v2 v3) fun _ =>
  ir ()
theorem v_N12_readGroup_125  : Si (fun x : Unit => x) (N12_readGroup_125  ) (I12_readGroup_125  ) := by
  unfold N12_readGroup_125 I12_readGroup_125
  refine si_b si_gI fun v1 => ?_
  refine si_b (si_pI (eAdd rfl (eLit 1))) fun _ => ?_
  refine si_b si_gI fun v2 => ?_
  refine si_b si_gI fun v3 => ?_
  refine si_b (si_sI rfl rfl) fun _ => ?_
  exact si_rn
def I12_readGroup_105 (y0 : Int) (y1 : Int) (y2 : Nat) : IM Unit :=
  ib (isI y2 y1 y0) fun _ =>
  ib (I12_goes 40) fun v1 =>
  ig (R32 v1) <|
  if v1 = 0 then (I12_readGroup_125) else (ib I12_readChanges fun _ =>
  ib (I12_must 41) fun _ =>
  I12_readGroup_125)
theorem v_N12_readGroup_105  {n_y0 : Int32} {y0 : Int} (e_y0 : n_y0 = iI y0) {n_y1 : Int32} {y1 : Int} (e_y1 : n_y1 = iI y1) (y2 : Nat) : Si (fun x : Unit => x) (N12_readGroup_105  n_y0 n_y1 y2) (I12_readGroup_105  y0 y1 y2) := by
  subst e_y0
  subst e_y1
  unfold N12_readGroup_105 I12_readGroup_105
  refine si_b (si_sI rfl rfl) fun _ => ?_
  refine si_b (v_N12_goes (eLit 40)) fun v1 => ?_
  refine si_ig fun h1 => ?_
  refine si_ite (cEq rfl (eLit 0) ⟨h1, (by decide)⟩) ?_ ?_
  · exact v_N12_readGroup_125
  · refine si_b v_N12_readChanges fun _ => ?_
    refine si_b (v_N12_must (eLit 41)) fun _ => ?_
    exact v_N12_readGroup_125
def I12_readGroup_99 (x1 : Int) (y0 : Int) (y1 : Nat) : IM Unit :=
  ib (iaI 29 x1) fun v1 =>
  (I12_readGroup_105 v1 y0 y1)
theorem v_N12_readGroup_99  {n_x1 : Int32} {x1 : Int} (e_x1 : n_x1 = iI x1) {n_y0 : Int32} {y0 : Int} (e_y0 : n_y0 = iI y0) (y1 : Nat) : Si (fun x : Unit => x) (N12_readGroup_99  n_x1 n_y0 y1) (I12_readGroup_99  x1 y0 y1) := by
  subst e_x1
  subst e_y0
  unfold N12_readGroup_99 I12_readGroup_99
  refine si_b (si_aI rfl) fun v1 => ?_
  exact (v_N12_readGroup_105 rfl rfl y1)
def I12_readGroup_56 (x1 : Int) (y0 : Int) (y1 : Int) (y2 : Nat) : IM Unit :=
  ib (isI y2 y1 y0) fun _ =>
  ib (I12_take 3) fun v1 =>
  ib (isI 29 x1 v1) fun _ =>
  ib (iaZ 28 x1) fun v2 =>
  ig (R32 v2) <|
  if v2 = 0 then ((I12_readGroup_99 x1 x1 30)) else (ib (I12_goes 44) fun v3 =>
  ig (R32 v3) <|
  if v3 = 0 then ((I12_readGroup_99 x1 x1 30)) else (ib (I12_take 3) fun v4 =>
  (I12_readGroup_105 v4 x1 30)))
theorem v_N12_readGroup_56  {n_x1 : Int32} {x1 : Int} (e_x1 : n_x1 = iI x1) {n_y0 : Int32} {y0 : Int} (e_y0 : n_y0 = iI y0) {n_y1 : Int32} {y1 : Int} (e_y1 : n_y1 = iI y1) (y2 : Nat) : Si (fun x : Unit => x) (N12_readGroup_56  n_x1 n_y0 n_y1 y2) (I12_readGroup_56  x1 y0 y1 y2) := by
  subst e_x1
  subst e_y0
  subst e_y1
  unfold N12_readGroup_56 I12_readGroup_56
  refine si_b (si_sI rfl rfl) fun _ => ?_
  refine si_b (v_N12_take (eLit 3)) fun v1 => ?_
  refine si_b (si_sI rfl rfl) fun _ => ?_
  refine si_b (si_aZ rfl) fun v2 => ?_
  refine si_ig fun h1 => ?_
  refine si_ite (cEq rfl (eLit 0) ⟨h1, (by decide)⟩) ?_ ?_
  · exact (v_N12_readGroup_99 rfl rfl 30)
  · refine si_b (v_N12_goes (eLit 44)) fun v3 => ?_
    refine si_ig fun h2 => ?_
    refine si_ite (cEq rfl (eLit 0) ⟨h2, (by decide)⟩) ?_ ?_
    · exact (v_N12_readGroup_99 rfl rfl 30)
    · refine si_b (v_N12_take (eLit 3)) fun v4 => ?_
      exact (v_N12_readGroup_105 rfl rfl 30)
def I12_readGroup : IM Unit :=
  ib (igI 24) fun v1 =>
  ib (I12_take 2) fun v2 =>
  ib (isI 26 v1 v2) fun _ =>
  ib (I12_goes 45) fun v3 =>
  ib (isZ' 28 v1 v3) fun _ =>
  ib (iaZ 28 v1) fun v4 =>
  ig (R32 v4) <|
  if v4 = 0 then (ib (iaI 26 v1) fun v5 =>
  (I12_readGroup_56 v1 v5 v1 27)) else (ib (I12_take 2) fun v6 =>
  (I12_readGroup_56 v1 v6 v1 27))
theorem v_N12_readGroup  : Si (fun x : Unit => x) (N12_readGroup  ) (I12_readGroup  ) := by
  unfold N12_readGroup I12_readGroup
  refine si_b si_gI fun v1 => ?_
  refine si_b (v_N12_take (eLit 2)) fun v2 => ?_
  refine si_b (si_sI rfl rfl) fun _ => ?_
  refine si_b (v_N12_goes (eLit 45)) fun v3 => ?_
  refine si_b (si_sZ rfl rfl) fun _ => ?_
  refine si_b (si_aZ rfl) fun v4 => ?_
  refine si_ig fun h1 => ?_
  refine si_ite (cEq rfl (eLit 0) ⟨h1, (by decide)⟩) ?_ ?_
  · refine si_b (si_aI rfl) fun v5 => ?_
    exact (v_N12_readGroup_56 rfl rfl rfl 27)
  · refine si_b (v_N12_take (eLit 2)) fun v6 => ?_
    exact (v_N12_readGroup_56 rfl rfl rfl 27)
def I12_isSize (a0 : Int) : IM Int :=
  ig (R32 a0) <|
  if a0 = 1 then (ir 1) else (ib (irI a0 2) fun v1 =>
  ig (R32 v1) <|
  if v1 = 0 then (ib (I12_isIn a0 2 12) fun v2 =>
  ig (R32 v2) <|
  if v2 = 0 then (ir 0) else (ir 1)) else (ir 0))
theorem v_N12_isSize  {n_a0 : Int32} {a0 : Int} (e_a0 : n_a0 = iI a0) : Si iI (N12_isSize  n_a0) (I12_isSize  a0) := by
  subst e_a0
  unfold N12_isSize I12_isSize
  refine si_ig fun h1 => ?_
  refine si_ite (cEq rfl (eLit 1) ⟨h1, (by decide)⟩) ?_ ?_
  · exact si_re (eLit 1)
  · refine si_b (si_rI rfl (eLit 2)) fun v1 => ?_
    refine si_ig fun h2 => ?_
    refine si_ite (cEq rfl (eLit 0) ⟨h2, (by decide)⟩) ?_ ?_
    · refine si_b (v_N12_isIn rfl (eLit 2) (eLit 12)) fun v2 => ?_
      refine si_ig fun h3 => ?_
      refine si_ite (cEq rfl (eLit 0) ⟨h3, (by decide)⟩) ?_ ?_
      · exact si_re (eLit 0)
      · exact si_re (eLit 1)
    · exact si_re (eLit 0)
def I12_isTwice_101 (k5 : Int → Int → Int → Int → IM Int) (k14 : Int → Int → Int → Int → Int → IM Int) (x1 : Int) (x2 : Int) (x4 : Int) (x5 : Int) (y0 : Int) : IM Int :=
  (k14 x1 x2 y0 x4 (x5 + 1))
theorem v_N12_isTwice_101 {n_k5 : Int32 → Int32 → Int32 → Int32 → NM Int32} {k5 : Int → Int → Int → Int → IM Int} (hk5 : ∀ {n0 : Int32} {z0 : Int} (_ : n0 = iI z0) {n1 : Int32} {z1 : Int} (_ : n1 = iI z1) {n2 : Int32} {z2 : Int} (_ : n2 = iI z2) {n3 : Int32} {z3 : Int} (_ : n3 = iI z3), Si iI (n_k5 n0 n1 n2 n3) (k5 z0 z1 z2 z3)) {n_k14 : Int32 → Int32 → Int32 → Int32 → Int32 → NM Int32} {k14 : Int → Int → Int → Int → Int → IM Int} (hk14 : ∀ {n0 : Int32} {z0 : Int} (_ : n0 = iI z0) {n1 : Int32} {z1 : Int} (_ : n1 = iI z1) {n2 : Int32} {z2 : Int} (_ : n2 = iI z2) {n3 : Int32} {z3 : Int} (_ : n3 = iI z3) {n4 : Int32} {z4 : Int} (_ : n4 = iI z4), Si iI (n_k14 n0 n1 n2 n3 n4) (k14 z0 z1 z2 z3 z4)) {n_x1 : Int32} {x1 : Int} (e_x1 : n_x1 = iI x1) {n_x2 : Int32} {x2 : Int} (e_x2 : n_x2 = iI x2) {n_x4 : Int32} {x4 : Int} (e_x4 : n_x4 = iI x4) {n_x5 : Int32} {x5 : Int} (e_x5 : n_x5 = iI x5) {n_y0 : Int32} {y0 : Int} (e_y0 : n_y0 = iI y0) : Si iI (N12_isTwice_101 n_k5 n_k14 n_x1 n_x2 n_x4 n_x5 n_y0) (I12_isTwice_101 k5 k14 x1 x2 x4 x5 y0) := by
  subst e_x1
  subst e_x2
  subst e_x4
  subst e_x5
  subst e_y0
  unfold N12_isTwice_101 I12_isTwice_101
  exact (hk14 rfl rfl rfl rfl (eAdd rfl (eLit 1)))
def I12_isTwice_96 (k5 : Int → Int → Int → Int → IM Int) (k14 : Int → Int → Int → Int → Int → IM Int) (x1 : Int) (x2 : Int) (x4 : Int) (x5 : Int) : IM Int :=
  (I12_isTwice_101 k5 k14 x1 x2 x4 x5 1)
theorem v_N12_isTwice_96 {n_k5 : Int32 → Int32 → Int32 → Int32 → NM Int32} {k5 : Int → Int → Int → Int → IM Int} (hk5 : ∀ {n0 : Int32} {z0 : Int} (_ : n0 = iI z0) {n1 : Int32} {z1 : Int} (_ : n1 = iI z1) {n2 : Int32} {z2 : Int} (_ : n2 = iI z2) {n3 : Int32} {z3 : Int} (_ : n3 = iI z3), Si iI (n_k5 n0 n1 n2 n3) (k5 z0 z1 z2 z3)) {n_k14 : Int32 → Int32 → Int32 → Int32 → Int32 → NM Int32} {k14 : Int → Int → Int → Int → Int → IM Int} (hk14 : ∀ {n0 : Int32} {z0 : Int} (_ : n0 = iI z0) {n1 : Int32} {z1 : Int} (_ : n1 = iI z1) {n2 : Int32} {z2 : Int} (_ : n2 = iI z2) {n3 : Int32} {z3 : Int} (_ : n3 = iI z3) {n4 : Int32} {z4 : Int} (_ : n4 = iI z4), Si iI (n_k14 n0 n1 n2 n3 n4) (k14 z0 z1 z2 z3 z4)) {n_x1 : Int32} {x1 : Int} (e_x1 : n_x1 = iI x1) {n_x2 : Int32} {x2 : Int} (e_x2 : n_x2 = iI x2) {n_x4 : Int32} {x4 : Int} (e_x4 : n_x4 = iI x4) {n_x5 : Int32} {x5 : Int} (e_x5 : n_x5 = iI x5) : Si iI (N12_isTwice_96 n_k5 n_k14 n_x1 n_x2 n_x4 n_x5) (I12_isTwice_96 k5 k14 x1 x2 x4 x5) := by
  subst e_x1
  subst e_x2
  subst e_x4
  subst e_x5
  unfold N12_isTwice_96 I12_isTwice_96
  exact (v_N12_isTwice_101 hk5 hk14 rfl rfl rfl rfl (eLit 1))
def I12_isTwice_100 (k5 : Int → Int → Int → Int → IM Int) (k14 : Int → Int → Int → Int → Int → IM Int) (x1 : Int) (x2 : Int) (x4 : Int) (x5 : Int) : IM Int :=
  (I12_isTwice_101 k5 k14 x1 x2 x4 x5 0)
theorem v_N12_isTwice_100 {n_k5 : Int32 → Int32 → Int32 → Int32 → NM Int32} {k5 : Int → Int → Int → Int → IM Int} (hk5 : ∀ {n0 : Int32} {z0 : Int} (_ : n0 = iI z0) {n1 : Int32} {z1 : Int} (_ : n1 = iI z1) {n2 : Int32} {z2 : Int} (_ : n2 = iI z2) {n3 : Int32} {z3 : Int} (_ : n3 = iI z3), Si iI (n_k5 n0 n1 n2 n3) (k5 z0 z1 z2 z3)) {n_k14 : Int32 → Int32 → Int32 → Int32 → Int32 → NM Int32} {k14 : Int → Int → Int → Int → Int → IM Int} (hk14 : ∀ {n0 : Int32} {z0 : Int} (_ : n0 = iI z0) {n1 : Int32} {z1 : Int} (_ : n1 = iI z1) {n2 : Int32} {z2 : Int} (_ : n2 = iI z2) {n3 : Int32} {z3 : Int} (_ : n3 = iI z3) {n4 : Int32} {z4 : Int} (_ : n4 = iI z4), Si iI (n_k14 n0 n1 n2 n3 n4) (k14 z0 z1 z2 z3 z4)) {n_x1 : Int32} {x1 : Int} (e_x1 : n_x1 = iI x1) {n_x2 : Int32} {x2 : Int} (e_x2 : n_x2 = iI x2) {n_x4 : Int32} {x4 : Int} (e_x4 : n_x4 = iI x4) {n_x5 : Int32} {x5 : Int} (e_x5 : n_x5 = iI x5) : Si iI (N12_isTwice_100 n_k5 n_k14 n_x1 n_x2 n_x4 n_x5) (I12_isTwice_100 k5 k14 x1 x2 x4 x5) := by
  subst e_x1
  subst e_x2
  subst e_x4
  subst e_x5
  unfold N12_isTwice_100 I12_isTwice_100
  exact (v_N12_isTwice_101 hk5 hk14 rfl rfl rfl rfl (eLit 0))
def I12_isTwice_93 (k5 : Int → Int → Int → Int → IM Int) (k14 : Int → Int → Int → Int → Int → IM Int) (x1 : Int) (x2 : Int) (x4 : Int) (x5 : Int) (y0 : Int) (y1 : Int) : IM Int :=
  ig (R32 y1) <|
  ig (R32 y0) <|
  if y1 = y0 then ((I12_isTwice_96 k5 k14 x1 x2 x4 x5)) else ((I12_isTwice_100 k5 k14 x1 x2 x4 x5))
theorem v_N12_isTwice_93 {n_k5 : Int32 → Int32 → Int32 → Int32 → NM Int32} {k5 : Int → Int → Int → Int → IM Int} (hk5 : ∀ {n0 : Int32} {z0 : Int} (_ : n0 = iI z0) {n1 : Int32} {z1 : Int} (_ : n1 = iI z1) {n2 : Int32} {z2 : Int} (_ : n2 = iI z2) {n3 : Int32} {z3 : Int} (_ : n3 = iI z3), Si iI (n_k5 n0 n1 n2 n3) (k5 z0 z1 z2 z3)) {n_k14 : Int32 → Int32 → Int32 → Int32 → Int32 → NM Int32} {k14 : Int → Int → Int → Int → Int → IM Int} (hk14 : ∀ {n0 : Int32} {z0 : Int} (_ : n0 = iI z0) {n1 : Int32} {z1 : Int} (_ : n1 = iI z1) {n2 : Int32} {z2 : Int} (_ : n2 = iI z2) {n3 : Int32} {z3 : Int} (_ : n3 = iI z3) {n4 : Int32} {z4 : Int} (_ : n4 = iI z4), Si iI (n_k14 n0 n1 n2 n3 n4) (k14 z0 z1 z2 z3 z4)) {n_x1 : Int32} {x1 : Int} (e_x1 : n_x1 = iI x1) {n_x2 : Int32} {x2 : Int} (e_x2 : n_x2 = iI x2) {n_x4 : Int32} {x4 : Int} (e_x4 : n_x4 = iI x4) {n_x5 : Int32} {x5 : Int} (e_x5 : n_x5 = iI x5) {n_y0 : Int32} {y0 : Int} (e_y0 : n_y0 = iI y0) {n_y1 : Int32} {y1 : Int} (e_y1 : n_y1 = iI y1) : Si iI (N12_isTwice_93 n_k5 n_k14 n_x1 n_x2 n_x4 n_x5 n_y0 n_y1) (I12_isTwice_93 k5 k14 x1 x2 x4 x5 y0 y1) := by
  subst e_x1
  subst e_x2
  subst e_x4
  subst e_x5
  subst e_y0
  subst e_y1
  unfold N12_isTwice_93 I12_isTwice_93
  refine si_ig fun h1 => ?_
  refine si_ig fun h2 => ?_
  refine si_ite (cEq rfl rfl ⟨h1, h2⟩) ?_ ?_
  · exact (v_N12_isTwice_96 hk5 hk14 rfl rfl rfl rfl)
  · exact (v_N12_isTwice_100 hk5 hk14 rfl rfl rfl rfl)
def I12_isTwice_76 (k5 : Int → Int → Int → Int → IM Int) (k14 : Int → Int → Int → Int → Int → IM Int) (x1 : Int) (x2 : Int) (x4 : Int) (x5 : Int) (y0 : Int) : IM Int :=
  ib (iaI 32 x5) fun v1 =>
  ig (R32 v1) <|
  if v1 = 43 then ((I12_isTwice_93 k5 k14 x1 x2 x4 x5 1 y0)) else ((I12_isTwice_93 k5 k14 x1 x2 x4 x5 0 y0))
theorem v_N12_isTwice_76 {n_k5 : Int32 → Int32 → Int32 → Int32 → NM Int32} {k5 : Int → Int → Int → Int → IM Int} (hk5 : ∀ {n0 : Int32} {z0 : Int} (_ : n0 = iI z0) {n1 : Int32} {z1 : Int} (_ : n1 = iI z1) {n2 : Int32} {z2 : Int} (_ : n2 = iI z2) {n3 : Int32} {z3 : Int} (_ : n3 = iI z3), Si iI (n_k5 n0 n1 n2 n3) (k5 z0 z1 z2 z3)) {n_k14 : Int32 → Int32 → Int32 → Int32 → Int32 → NM Int32} {k14 : Int → Int → Int → Int → Int → IM Int} (hk14 : ∀ {n0 : Int32} {z0 : Int} (_ : n0 = iI z0) {n1 : Int32} {z1 : Int} (_ : n1 = iI z1) {n2 : Int32} {z2 : Int} (_ : n2 = iI z2) {n3 : Int32} {z3 : Int} (_ : n3 = iI z3) {n4 : Int32} {z4 : Int} (_ : n4 = iI z4), Si iI (n_k14 n0 n1 n2 n3 n4) (k14 z0 z1 z2 z3 z4)) {n_x1 : Int32} {x1 : Int} (e_x1 : n_x1 = iI x1) {n_x2 : Int32} {x2 : Int} (e_x2 : n_x2 = iI x2) {n_x4 : Int32} {x4 : Int} (e_x4 : n_x4 = iI x4) {n_x5 : Int32} {x5 : Int} (e_x5 : n_x5 = iI x5) {n_y0 : Int32} {y0 : Int} (e_y0 : n_y0 = iI y0) : Si iI (N12_isTwice_76 n_k5 n_k14 n_x1 n_x2 n_x4 n_x5 n_y0) (I12_isTwice_76 k5 k14 x1 x2 x4 x5 y0) := by
  subst e_x1
  subst e_x2
  subst e_x4
  subst e_x5
  subst e_y0
  unfold N12_isTwice_76 I12_isTwice_76
  refine si_b (si_aI rfl) fun v1 => ?_
  refine si_ig fun h1 => ?_
  refine si_ite (cEq rfl (eLit 43) ⟨h1, (by decide)⟩) ?_ ?_
  · exact (v_N12_isTwice_93 hk5 hk14 rfl rfl rfl rfl (eLit 1) rfl)
  · exact (v_N12_isTwice_93 hk5 hk14 rfl rfl rfl rfl (eLit 0) rfl)
def I12_isTwice_108 (k5 : Int → Int → Int → Int → IM Int) (x1 : Int) (x2 : Int) (x3 : Int) (x4 : Int) : IM Int :=
  (k5 x1 x2 x3 (x4 + 1))
theorem v_N12_isTwice_108 {n_k5 : Int32 → Int32 → Int32 → Int32 → NM Int32} {k5 : Int → Int → Int → Int → IM Int} (hk5 : ∀ {n0 : Int32} {z0 : Int} (_ : n0 = iI z0) {n1 : Int32} {z1 : Int} (_ : n1 = iI z1) {n2 : Int32} {z2 : Int} (_ : n2 = iI z2) {n3 : Int32} {z3 : Int} (_ : n3 = iI z3), Si iI (n_k5 n0 n1 n2 n3) (k5 z0 z1 z2 z3)) {n_x1 : Int32} {x1 : Int} (e_x1 : n_x1 = iI x1) {n_x2 : Int32} {x2 : Int} (e_x2 : n_x2 = iI x2) {n_x3 : Int32} {x3 : Int} (e_x3 : n_x3 = iI x3) {n_x4 : Int32} {x4 : Int} (e_x4 : n_x4 = iI x4) : Si iI (N12_isTwice_108 n_k5 n_x1 n_x2 n_x3 n_x4) (I12_isTwice_108 k5 x1 x2 x3 x4) := by
  subst e_x1
  subst e_x2
  subst e_x3
  subst e_x4
  unfold N12_isTwice_108 I12_isTwice_108
  exact (hk5 rfl rfl rfl (eAdd rfl (eLit 1)))
def I12_isTwice_14_st (k5 : Int → Int → Int → Int → IM Int) (k14 : Int → Int → Int → Int → Int → IM Int) (x1 : Int) (x2 : Int) (x3 : Int) (x4 : Int) (x5 : Int) : IM Int :=
  ig (R32 x4) <|
  ig (R32 x5) <|
  if x4 ≤ x5 then ((I12_isTwice_108 k5 x1 x2 x3 x4)) else (ig (R32 x3) <|
  if x3 = 0 then (ib (iaI 33 x4) fun v1 =>
  ib (iaI 33 x5) fun v2 =>
  ig (R32 v1) <|
  ig (R32 v2) <|
  if v1 = v2 then (ib (iaI 34 x4) fun v3 =>
  ib (iaI 34 x5) fun v4 =>
  ig (R32 v3) <|
  ig (R32 v4) <|
  if v3 = v4 then (ib (iaI 32 x4) fun v5 =>
  ig (R32 v5) <|
  if v5 = 43 then ((I12_isTwice_76 k5 k14 x1 x2 x4 x5 1)) else ((I12_isTwice_76 k5 k14 x1 x2 x4 x5 0))) else ((I12_isTwice_100 k5 k14 x1 x2 x4 x5))) else ((I12_isTwice_100 k5 k14 x1 x2 x4 x5))) else ((I12_isTwice_96 k5 k14 x1 x2 x4 x5)))
theorem v_N12_isTwice_14_st {n_k5 : Int32 → Int32 → Int32 → Int32 → NM Int32} {k5 : Int → Int → Int → Int → IM Int} (hk5 : ∀ {n0 : Int32} {z0 : Int} (_ : n0 = iI z0) {n1 : Int32} {z1 : Int} (_ : n1 = iI z1) {n2 : Int32} {z2 : Int} (_ : n2 = iI z2) {n3 : Int32} {z3 : Int} (_ : n3 = iI z3), Si iI (n_k5 n0 n1 n2 n3) (k5 z0 z1 z2 z3)) {n_k14 : Int32 → Int32 → Int32 → Int32 → Int32 → NM Int32} {k14 : Int → Int → Int → Int → Int → IM Int} (hk14 : ∀ {n0 : Int32} {z0 : Int} (_ : n0 = iI z0) {n1 : Int32} {z1 : Int} (_ : n1 = iI z1) {n2 : Int32} {z2 : Int} (_ : n2 = iI z2) {n3 : Int32} {z3 : Int} (_ : n3 = iI z3) {n4 : Int32} {z4 : Int} (_ : n4 = iI z4), Si iI (n_k14 n0 n1 n2 n3 n4) (k14 z0 z1 z2 z3 z4)) {n_x1 : Int32} {x1 : Int} (e_x1 : n_x1 = iI x1) {n_x2 : Int32} {x2 : Int} (e_x2 : n_x2 = iI x2) {n_x3 : Int32} {x3 : Int} (e_x3 : n_x3 = iI x3) {n_x4 : Int32} {x4 : Int} (e_x4 : n_x4 = iI x4) {n_x5 : Int32} {x5 : Int} (e_x5 : n_x5 = iI x5) : Si iI (N12_isTwice_14_st n_k5 n_k14 n_x1 n_x2 n_x3 n_x4 n_x5) (I12_isTwice_14_st k5 k14 x1 x2 x3 x4 x5) := by
  subst e_x1
  subst e_x2
  subst e_x3
  subst e_x4
  subst e_x5
  unfold N12_isTwice_14_st I12_isTwice_14_st
  refine si_ig fun h1 => ?_
  refine si_ig fun h2 => ?_
  refine si_ite (cLe rfl rfl ⟨h1, h2⟩) ?_ ?_
  · exact (v_N12_isTwice_108 hk5 rfl rfl rfl rfl)
  · refine si_ig fun h3 => ?_
    refine si_ite (cEq rfl (eLit 0) ⟨h3, (by decide)⟩) ?_ ?_
    · refine si_b (si_aI rfl) fun v1 => ?_
      refine si_b (si_aI rfl) fun v2 => ?_
      refine si_ig fun h4 => ?_
      refine si_ig fun h5 => ?_
      refine si_ite (cEq rfl rfl ⟨h4, h5⟩) ?_ ?_
      · refine si_b (si_aI rfl) fun v3 => ?_
        refine si_b (si_aI rfl) fun v4 => ?_
        refine si_ig fun h6 => ?_
        refine si_ig fun h7 => ?_
        refine si_ite (cEq rfl rfl ⟨h6, h7⟩) ?_ ?_
        · refine si_b (si_aI rfl) fun v5 => ?_
          refine si_ig fun h8 => ?_
          refine si_ite (cEq rfl (eLit 43) ⟨h8, (by decide)⟩) ?_ ?_
          · exact (v_N12_isTwice_76 hk5 hk14 rfl rfl rfl rfl (eLit 1))
          · exact (v_N12_isTwice_76 hk5 hk14 rfl rfl rfl rfl (eLit 0))
        · exact (v_N12_isTwice_100 hk5 hk14 rfl rfl rfl rfl)
      · exact (v_N12_isTwice_100 hk5 hk14 rfl rfl rfl rfl)
    · exact (v_N12_isTwice_96 hk5 hk14 rfl rfl rfl rfl)
def I12_isTwice_14 (k5 : Int → Int → Int → Int → IM Int) : Nat → Int → Int → Int → Int → Int → IM Int
  | 0 => fun _ _ _ _ _ => nof
  | n + 1 => fun x1 x2 x3 x4 x5 => I12_isTwice_14_st k5 (I12_isTwice_14 k5 n) x1 x2 x3 x4 x5
theorem v_N12_isTwice_14 {n_k5 : Int32 → Int32 → Int32 → Int32 → NM Int32} {k5 : Int → Int → Int → Int → IM Int} (hk5 : ∀ {n0 : Int32} {z0 : Int} (_ : n0 = iI z0) {n1 : Int32} {z1 : Int} (_ : n1 = iI z1) {n2 : Int32} {z2 : Int} (_ : n2 = iI z2) {n3 : Int32} {z3 : Int} (_ : n3 = iI z3), Si iI (n_k5 n0 n1 n2 n3) (k5 z0 z1 z2 z3)) : ∀ (n : Nat) {n_x1 : Int32} {x1 : Int} (e_x1 : n_x1 = iI x1) {n_x2 : Int32} {x2 : Int} (e_x2 : n_x2 = iI x2) {n_x3 : Int32} {x3 : Int} (e_x3 : n_x3 = iI x3) {n_x4 : Int32} {x4 : Int} (e_x4 : n_x4 = iI x4) {n_x5 : Int32} {x5 : Int} (e_x5 : n_x5 = iI x5), Si iI (N12_isTwice_14 n_k5 n n_x1 n_x2 n_x3 n_x4 n_x5) (I12_isTwice_14 k5 n x1 x2 x3 x4 x5) := by
  intro n
  induction n with
  | zero => intro n_x1 x1 e_x1 n_x2 x2 e_x2 n_x3 x3 e_x3 n_x4 x4 e_x4 n_x5 x5 e_x5; exact si_nf
  | succ n ih => intro n_x1 x1 e_x1 n_x2 x2 e_x2 n_x3 x3 e_x3 n_x4 x4 e_x4 n_x5 x5 e_x5; exact v_N12_isTwice_14_st hk5 (ih) e_x1 e_x2 e_x3 e_x4 e_x5
def I12_isTwice_5_st (k5 : Int → Int → Int → Int → IM Int) (x1 : Int) (x2 : Int) (x3 : Int) (x4 : Int) : IM Int :=
  ig (R32 x2) <|
  ig (R32 x4) <|
  if x2 ≤ x4 then (ib (inz x3) fun v1 =>
  ir v1) else ((I12_isTwice_14 k5 LFU x1 x2 x3 x4 x1))
theorem v_N12_isTwice_5_st {n_k5 : Int32 → Int32 → Int32 → Int32 → NM Int32} {k5 : Int → Int → Int → Int → IM Int} (hk5 : ∀ {n0 : Int32} {z0 : Int} (_ : n0 = iI z0) {n1 : Int32} {z1 : Int} (_ : n1 = iI z1) {n2 : Int32} {z2 : Int} (_ : n2 = iI z2) {n3 : Int32} {z3 : Int} (_ : n3 = iI z3), Si iI (n_k5 n0 n1 n2 n3) (k5 z0 z1 z2 z3)) {n_x1 : Int32} {x1 : Int} (e_x1 : n_x1 = iI x1) {n_x2 : Int32} {x2 : Int} (e_x2 : n_x2 = iI x2) {n_x3 : Int32} {x3 : Int} (e_x3 : n_x3 = iI x3) {n_x4 : Int32} {x4 : Int} (e_x4 : n_x4 = iI x4) : Si iI (N12_isTwice_5_st n_k5 n_x1 n_x2 n_x3 n_x4) (I12_isTwice_5_st k5 x1 x2 x3 x4) := by
  subst e_x1
  subst e_x2
  subst e_x3
  subst e_x4
  unfold N12_isTwice_5_st I12_isTwice_5_st
  refine si_ig fun h1 => ?_
  refine si_ig fun h2 => ?_
  refine si_ite (cLe rfl rfl ⟨h1, h2⟩) ?_ ?_
  · refine si_b (si_nz rfl) fun v1 => ?_
    exact si_re rfl
  · exact (v_N12_isTwice_14 hk5 LFU rfl rfl rfl rfl rfl)
def I12_isTwice_5 : Nat → Int → Int → Int → Int → IM Int
  | 0 => fun _ _ _ _ => nof
  | n + 1 => fun x1 x2 x3 x4 => I12_isTwice_5_st  (I12_isTwice_5  n) x1 x2 x3 x4
theorem v_N12_isTwice_5  : ∀ (n : Nat) {n_x1 : Int32} {x1 : Int} (e_x1 : n_x1 = iI x1) {n_x2 : Int32} {x2 : Int} (e_x2 : n_x2 = iI x2) {n_x3 : Int32} {x3 : Int} (e_x3 : n_x3 = iI x3) {n_x4 : Int32} {x4 : Int} (e_x4 : n_x4 = iI x4), Si iI (N12_isTwice_5  n n_x1 n_x2 n_x3 n_x4) (I12_isTwice_5  n x1 x2 x3 x4) := by
  intro n
  induction n with
  | zero => intro n_x1 x1 e_x1 n_x2 x2 e_x2 n_x3 x3 e_x3 n_x4 x4 e_x4; exact si_nf
  | succ n ih => intro n_x1 x1 e_x1 n_x2 x2 e_x2 n_x3 x3 e_x3 n_x4 x4 e_x4; exact v_N12_isTwice_5_st  (ih) e_x1 e_x2 e_x3 e_x4
def I12_isTwice (a1 : Int) (a2 : Int) : IM Int :=
  (I12_isTwice_5 LFU a1 a2 0 a1)
theorem v_N12_isTwice  {n_a1 : Int32} {a1 : Int} (e_a1 : n_a1 = iI a1) {n_a2 : Int32} {a2 : Int} (e_a2 : n_a2 = iI a2) : Si iI (N12_isTwice  n_a1 n_a2) (I12_isTwice  a1 a2) := by
  subst e_a1
  subst e_a2
  unfold N12_isTwice I12_isTwice
  exact (v_N12_isTwice_5 LFU rfl rfl (eLit 0) rfl)
def I12_isFewPut_47 (k5 : Int → Int → Int → IM Int) (x2 : Int) (x4 : Int) (y0 : Int) : IM Int :=
  (k5 x2 y0 (x4 + 1))
theorem v_N12_isFewPut_47 {n_k5 : Int32 → Int32 → Int32 → NM Int32} {k5 : Int → Int → Int → IM Int} (hk5 : ∀ {n0 : Int32} {z0 : Int} (_ : n0 = iI z0) {n1 : Int32} {z1 : Int} (_ : n1 = iI z1) {n2 : Int32} {z2 : Int} (_ : n2 = iI z2), Si iI (n_k5 n0 n1 n2) (k5 z0 z1 z2)) {n_x2 : Int32} {x2 : Int} (e_x2 : n_x2 = iI x2) {n_x4 : Int32} {x4 : Int} (e_x4 : n_x4 = iI x4) {n_y0 : Int32} {y0 : Int} (e_y0 : n_y0 = iI y0) : Si iI (N12_isFewPut_47 n_k5 n_x2 n_x4 n_y0) (I12_isFewPut_47 k5 x2 x4 y0) := by
  subst e_x2
  subst e_x4
  subst e_y0
  unfold N12_isFewPut_47 I12_isFewPut_47
  exact (hk5 rfl rfl (eAdd rfl (eLit 1)))
def I12_isFewPut_42 (k5 : Int → Int → Int → IM Int) (x2 : Int) (x4 : Int) : IM Int :=
  (I12_isFewPut_47 k5 x2 x4 1)
theorem v_N12_isFewPut_42 {n_k5 : Int32 → Int32 → Int32 → NM Int32} {k5 : Int → Int → Int → IM Int} (hk5 : ∀ {n0 : Int32} {z0 : Int} (_ : n0 = iI z0) {n1 : Int32} {z1 : Int} (_ : n1 = iI z1) {n2 : Int32} {z2 : Int} (_ : n2 = iI z2), Si iI (n_k5 n0 n1 n2) (k5 z0 z1 z2)) {n_x2 : Int32} {x2 : Int} (e_x2 : n_x2 = iI x2) {n_x4 : Int32} {x4 : Int} (e_x4 : n_x4 = iI x4) : Si iI (N12_isFewPut_42 n_k5 n_x2 n_x4) (I12_isFewPut_42 k5 x2 x4) := by
  subst e_x2
  subst e_x4
  unfold N12_isFewPut_42 I12_isFewPut_42
  exact (v_N12_isFewPut_47 hk5 rfl rfl (eLit 1))
def I12_isFewPut_46 (k5 : Int → Int → Int → IM Int) (x2 : Int) (x4 : Int) : IM Int :=
  (I12_isFewPut_47 k5 x2 x4 0)
theorem v_N12_isFewPut_46 {n_k5 : Int32 → Int32 → Int32 → NM Int32} {k5 : Int → Int → Int → IM Int} (hk5 : ∀ {n0 : Int32} {z0 : Int} (_ : n0 = iI z0) {n1 : Int32} {z1 : Int} (_ : n1 = iI z1) {n2 : Int32} {z2 : Int} (_ : n2 = iI z2), Si iI (n_k5 n0 n1 n2) (k5 z0 z1 z2)) {n_x2 : Int32} {x2 : Int} (e_x2 : n_x2 = iI x2) {n_x4 : Int32} {x4 : Int} (e_x4 : n_x4 = iI x4) : Si iI (N12_isFewPut_46 n_k5 n_x2 n_x4) (I12_isFewPut_46 k5 x2 x4) := by
  subst e_x2
  subst e_x4
  unfold N12_isFewPut_46 I12_isFewPut_46
  exact (v_N12_isFewPut_47 hk5 rfl rfl (eLit 0))
def I12_isFewPut_5_st (k5 : Int → Int → Int → IM Int) (x2 : Int) (x3 : Int) (x4 : Int) : IM Int :=
  ig (R32 x2) <|
  ig (R32 x4) <|
  if x2 ≤ x4 then (ib (inz x3) fun v1 =>
  ir v1) else (ig (R32 x3) <|
  if x3 = 0 then ((I12_isFewPut_46 k5 x2 x4)) else (ib (iaI 32 x4) fun v2 =>
  ig (R32 v2) <|
  if v2 = 43 then (ib (iaI 35 x4) fun v3 =>
  ib (I12_isIn v3 1 4) fun v4 =>
  ig (R32 v4) <|
  if v4 = 0 then ((I12_isFewPut_46 k5 x2 x4)) else ((I12_isFewPut_42 k5 x2 x4))) else ((I12_isFewPut_42 k5 x2 x4))))
theorem v_N12_isFewPut_5_st {n_k5 : Int32 → Int32 → Int32 → NM Int32} {k5 : Int → Int → Int → IM Int} (hk5 : ∀ {n0 : Int32} {z0 : Int} (_ : n0 = iI z0) {n1 : Int32} {z1 : Int} (_ : n1 = iI z1) {n2 : Int32} {z2 : Int} (_ : n2 = iI z2), Si iI (n_k5 n0 n1 n2) (k5 z0 z1 z2)) {n_x2 : Int32} {x2 : Int} (e_x2 : n_x2 = iI x2) {n_x3 : Int32} {x3 : Int} (e_x3 : n_x3 = iI x3) {n_x4 : Int32} {x4 : Int} (e_x4 : n_x4 = iI x4) : Si iI (N12_isFewPut_5_st n_k5 n_x2 n_x3 n_x4) (I12_isFewPut_5_st k5 x2 x3 x4) := by
  subst e_x2
  subst e_x3
  subst e_x4
  unfold N12_isFewPut_5_st I12_isFewPut_5_st
  refine si_ig fun h1 => ?_
  refine si_ig fun h2 => ?_
  refine si_ite (cLe rfl rfl ⟨h1, h2⟩) ?_ ?_
  · refine si_b (si_nz rfl) fun v1 => ?_
    exact si_re rfl
  · refine si_ig fun h3 => ?_
    refine si_ite (cEq rfl (eLit 0) ⟨h3, (by decide)⟩) ?_ ?_
    · exact (v_N12_isFewPut_46 hk5 rfl rfl)
    · refine si_b (si_aI rfl) fun v2 => ?_
      refine si_ig fun h4 => ?_
      refine si_ite (cEq rfl (eLit 43) ⟨h4, (by decide)⟩) ?_ ?_
      · refine si_b (si_aI rfl) fun v3 => ?_
        refine si_b (v_N12_isIn rfl (eLit 1) (eLit 4)) fun v4 => ?_
        refine si_ig fun h5 => ?_
        refine si_ite (cEq rfl (eLit 0) ⟨h5, (by decide)⟩) ?_ ?_
        · exact (v_N12_isFewPut_46 hk5 rfl rfl)
        · exact (v_N12_isFewPut_42 hk5 rfl rfl)
      · exact (v_N12_isFewPut_42 hk5 rfl rfl)
def I12_isFewPut_5 : Nat → Int → Int → Int → IM Int
  | 0 => fun _ _ _ => nof
  | n + 1 => fun x2 x3 x4 => I12_isFewPut_5_st  (I12_isFewPut_5  n) x2 x3 x4
theorem v_N12_isFewPut_5  : ∀ (n : Nat) {n_x2 : Int32} {x2 : Int} (e_x2 : n_x2 = iI x2) {n_x3 : Int32} {x3 : Int} (e_x3 : n_x3 = iI x3) {n_x4 : Int32} {x4 : Int} (e_x4 : n_x4 = iI x4), Si iI (N12_isFewPut_5  n n_x2 n_x3 n_x4) (I12_isFewPut_5  n x2 x3 x4) := by
  intro n
  induction n with
  | zero => intro n_x2 x2 e_x2 n_x3 x3 e_x3 n_x4 x4 e_x4; exact si_nf
  | succ n ih => intro n_x2 x2 e_x2 n_x3 x3 e_x3 n_x4 x4 e_x4; exact v_N12_isFewPut_5_st  (ih) e_x2 e_x3 e_x4
def I12_isFewPut (a1 : Int) (a2 : Int) : IM Int :=
  (I12_isFewPut_5 LFU a2 1 a1)
theorem v_N12_isFewPut  {n_a1 : Int32} {a1 : Int} (e_a1 : n_a1 = iI a1) {n_a2 : Int32} {a2 : Int} (e_a2 : n_a2 = iI a2) : Si iI (N12_isFewPut  n_a1 n_a2) (I12_isFewPut  a1 a2) := by
  subst e_a1
  subst e_a2
  unfold N12_isFewPut I12_isFewPut
  exact (v_N12_isFewPut_5 LFU rfl (eLit 1) rfl)
def I12_faultOfGroup_181 (k114 : Int → Int → Int → Int → IM Int) (x1 : Int) (x4 : Int) (x5 : Int) (x6 : Int) (y0 : Int) (y1 : Int) (y2 : Int) : IM Int :=
  ib (I12_isIn y2 y1 y0) fun v1 =>
  ig (R32 v1) <|
  if v1 = 0 then (ir 4) else ((k114 x1 x4 x5 (x6 + 1)))
theorem v_N12_faultOfGroup_181 {n_k114 : Int32 → Int32 → Int32 → Int32 → NM Int32} {k114 : Int → Int → Int → Int → IM Int} (hk114 : ∀ {n0 : Int32} {z0 : Int} (_ : n0 = iI z0) {n1 : Int32} {z1 : Int} (_ : n1 = iI z1) {n2 : Int32} {z2 : Int} (_ : n2 = iI z2) {n3 : Int32} {z3 : Int} (_ : n3 = iI z3), Si iI (n_k114 n0 n1 n2 n3) (k114 z0 z1 z2 z3)) {n_x1 : Int32} {x1 : Int} (e_x1 : n_x1 = iI x1) {n_x4 : Int32} {x4 : Int} (e_x4 : n_x4 = iI x4) {n_x5 : Int32} {x5 : Int} (e_x5 : n_x5 = iI x5) {n_x6 : Int32} {x6 : Int} (e_x6 : n_x6 = iI x6) {n_y0 : Int32} {y0 : Int} (e_y0 : n_y0 = iI y0) {n_y1 : Int32} {y1 : Int} (e_y1 : n_y1 = iI y1) {n_y2 : Int32} {y2 : Int} (e_y2 : n_y2 = iI y2) : Si iI (N12_faultOfGroup_181 n_k114 n_x1 n_x4 n_x5 n_x6 n_y0 n_y1 n_y2) (I12_faultOfGroup_181 k114 x1 x4 x5 x6 y0 y1 y2) := by
  subst e_x1
  subst e_x4
  subst e_x5
  subst e_x6
  subst e_y0
  subst e_y1
  subst e_y2
  unfold N12_faultOfGroup_181 I12_faultOfGroup_181
  refine si_b (v_N12_isIn rfl rfl rfl) fun v1 => ?_
  refine si_ig fun h1 => ?_
  refine si_ite (cEq rfl (eLit 0) ⟨h1, (by decide)⟩) ?_ ?_
  · exact si_re (eLit 4)
  · exact (hk114 rfl rfl rfl (eAdd rfl (eLit 1)))
def I12_faultOfGroup_195 (x1 : Int) : IM Int :=
  ib (iaI 31 x1) fun v1 =>
  ib (iaI 31 (x1 + 1)) fun v2 =>
  ib (I12_isFewPut v1 v2) fun v3 =>
  ig (R32 v3) <|
  if v3 = 0 then (ir 5) else (ib (iaI 31 x1) fun v4 =>
  ib (iaI 31 (x1 + 1)) fun v5 =>
  ib (I12_isTwice v4 v5) fun v6 =>
  ig (R32 v6) <|
  if v6 = 0 then (ir 0) else (ir 6))
theorem v_N12_faultOfGroup_195  {n_x1 : Int32} {x1 : Int} (e_x1 : n_x1 = iI x1) : Si iI (N12_faultOfGroup_195  n_x1) (I12_faultOfGroup_195  x1) := by
  subst e_x1
  unfold N12_faultOfGroup_195 I12_faultOfGroup_195
  refine si_b (si_aI rfl) fun v1 => ?_
  refine si_b (si_aI (eAdd rfl (eLit 1))) fun v2 => ?_
  refine si_b (v_N12_isFewPut rfl rfl) fun v3 => ?_
  refine si_ig fun h1 => ?_
  refine si_ite (cEq rfl (eLit 0) ⟨h1, (by decide)⟩) ?_ ?_
  · exact si_re (eLit 5)
  · refine si_b (si_aI rfl) fun v4 => ?_
    refine si_b (si_aI (eAdd rfl (eLit 1))) fun v5 => ?_
    refine si_b (v_N12_isTwice rfl rfl) fun v6 => ?_
    refine si_ig fun h2 => ?_
    refine si_ite (cEq rfl (eLit 0) ⟨h2, (by decide)⟩) ?_ ?_
    · exact si_re (eLit 0)
    · exact si_re (eLit 6)
def I12_faultOfGroup_114_st (k114 : Int → Int → Int → Int → IM Int) (x1 : Int) (x4 : Int) (x5 : Int) (x6 : Int) : IM Int :=
  ib (iaI 31 (x1 + 1)) fun v1 =>
  ig (R32 v1) <|
  ig (R32 x6) <|
  if v1 ≤ x6 then ((I12_faultOfGroup_195 x1)) else (ib (iaI 33 x6) fun v2 =>
  ib (I12_isIn v2 x4 x5) fun v3 =>
  ig (R32 v3) <|
  if v3 = 0 then (ir 4) else (ib (iaI 34 x6) fun v4 =>
  ib (irI (v2 - x4) 2) fun v5 =>
  ig (R32 v5) <|
  if v5 = 0 then (ib (iaI 29 x1) fun v6 =>
  (I12_faultOfGroup_181 k114 x1 x4 x5 x6 v6 1 v4)) else (ib (iaI 30 x1) fun v7 =>
  (I12_faultOfGroup_181 k114 x1 x4 x5 x6 v7 1 v4))))
theorem v_N12_faultOfGroup_114_st {n_k114 : Int32 → Int32 → Int32 → Int32 → NM Int32} {k114 : Int → Int → Int → Int → IM Int} (hk114 : ∀ {n0 : Int32} {z0 : Int} (_ : n0 = iI z0) {n1 : Int32} {z1 : Int} (_ : n1 = iI z1) {n2 : Int32} {z2 : Int} (_ : n2 = iI z2) {n3 : Int32} {z3 : Int} (_ : n3 = iI z3), Si iI (n_k114 n0 n1 n2 n3) (k114 z0 z1 z2 z3)) {n_x1 : Int32} {x1 : Int} (e_x1 : n_x1 = iI x1) {n_x4 : Int32} {x4 : Int} (e_x4 : n_x4 = iI x4) {n_x5 : Int32} {x5 : Int} (e_x5 : n_x5 = iI x5) {n_x6 : Int32} {x6 : Int} (e_x6 : n_x6 = iI x6) : Si iI (N12_faultOfGroup_114_st n_k114 n_x1 n_x4 n_x5 n_x6) (I12_faultOfGroup_114_st k114 x1 x4 x5 x6) := by
  subst e_x1
  subst e_x4
  subst e_x5
  subst e_x6
  unfold N12_faultOfGroup_114_st I12_faultOfGroup_114_st
  refine si_b (si_aI (eAdd rfl (eLit 1))) fun v1 => ?_
  refine si_ig fun h1 => ?_
  refine si_ig fun h2 => ?_
  refine si_ite (cLe rfl rfl ⟨h1, h2⟩) ?_ ?_
  · exact (v_N12_faultOfGroup_195 rfl)
  · refine si_b (si_aI rfl) fun v2 => ?_
    refine si_b (v_N12_isIn rfl rfl rfl) fun v3 => ?_
    refine si_ig fun h3 => ?_
    refine si_ite (cEq rfl (eLit 0) ⟨h3, (by decide)⟩) ?_ ?_
    · exact si_re (eLit 4)
    · refine si_b (si_aI rfl) fun v4 => ?_
      refine si_b (si_rI (eSub rfl rfl) (eLit 2)) fun v5 => ?_
      refine si_ig fun h4 => ?_
      refine si_ite (cEq rfl (eLit 0) ⟨h4, (by decide)⟩) ?_ ?_
      · refine si_b (si_aI rfl) fun v6 => ?_
        exact (v_N12_faultOfGroup_181 hk114 rfl rfl rfl rfl rfl (eLit 1) rfl)
      · refine si_b (si_aI rfl) fun v7 => ?_
        exact (v_N12_faultOfGroup_181 hk114 rfl rfl rfl rfl rfl (eLit 1) rfl)
def I12_faultOfGroup_114 : Nat → Int → Int → Int → Int → IM Int
  | 0 => fun _ _ _ _ => nof
  | n + 1 => fun x1 x4 x5 x6 => I12_faultOfGroup_114_st  (I12_faultOfGroup_114  n) x1 x4 x5 x6
theorem v_N12_faultOfGroup_114  : ∀ (n : Nat) {n_x1 : Int32} {x1 : Int} (e_x1 : n_x1 = iI x1) {n_x4 : Int32} {x4 : Int} (e_x4 : n_x4 = iI x4) {n_x5 : Int32} {x5 : Int} (e_x5 : n_x5 = iI x5) {n_x6 : Int32} {x6 : Int} (e_x6 : n_x6 = iI x6), Si iI (N12_faultOfGroup_114  n n_x1 n_x4 n_x5 n_x6) (I12_faultOfGroup_114  n x1 x4 x5 x6) := by
  intro n
  induction n with
  | zero => intro n_x1 x1 e_x1 n_x4 x4 e_x4 n_x5 x5 e_x5 n_x6 x6 e_x6; exact si_nf
  | succ n ih => intro n_x1 x1 e_x1 n_x4 x4 e_x4 n_x5 x5 e_x5 n_x6 x6 e_x6; exact v_N12_faultOfGroup_114_st  (ih) e_x1 e_x4 e_x5 e_x6
def I12_faultOfGroup_80 (x1 : Int) (x4 : Int) (x5 : Int) : IM Int :=
  ib (iaI 29 x1) fun v1 =>
  ib (I12_isSize v1) fun v2 =>
  ig (R32 v2) <|
  if v2 = 0 then (ir 3) else (ib (iaI 30 x1) fun v3 =>
  ib (I12_isSize v3) fun v4 =>
  ig (R32 v4) <|
  if v4 = 0 then (ir 3) else (ib (iaI 31 x1) fun v5 =>
  (I12_faultOfGroup_114 LFU x1 x4 x5 v5)))
theorem v_N12_faultOfGroup_80  {n_x1 : Int32} {x1 : Int} (e_x1 : n_x1 = iI x1) {n_x4 : Int32} {x4 : Int} (e_x4 : n_x4 = iI x4) {n_x5 : Int32} {x5 : Int} (e_x5 : n_x5 = iI x5) : Si iI (N12_faultOfGroup_80  n_x1 n_x4 n_x5) (I12_faultOfGroup_80  x1 x4 x5) := by
  subst e_x1
  subst e_x4
  subst e_x5
  unfold N12_faultOfGroup_80 I12_faultOfGroup_80
  refine si_b (si_aI rfl) fun v1 => ?_
  refine si_b (v_N12_isSize rfl) fun v2 => ?_
  refine si_ig fun h1 => ?_
  refine si_ite (cEq rfl (eLit 0) ⟨h1, (by decide)⟩) ?_ ?_
  · exact si_re (eLit 3)
  · refine si_b (si_aI rfl) fun v3 => ?_
    refine si_b (v_N12_isSize rfl) fun v4 => ?_
    refine si_ig fun h2 => ?_
    refine si_ite (cEq rfl (eLit 0) ⟨h2, (by decide)⟩) ?_ ?_
    · exact si_re (eLit 3)
    · refine si_b (si_aI rfl) fun v5 => ?_
      exact (v_N12_faultOfGroup_114 LFU rfl rfl rfl rfl)
def I12_faultOfGroup_58 (x1 : Int) (x2 : Int) (x3 : Int) (x4 : Int) (x5 : Int) : IM Int :=
  ig (R32 x4) <|
  if x4 = 70 then (ig (R32 x3) <|
  if x3 = 0 then ((I12_faultOfGroup_80 x1 x4 x5)) else (ir 2)) else (ig (R32 x2) <|
  if x2 < x4 then ((I12_faultOfGroup_80 x1 x4 x5)) else (ir 2))
theorem v_N12_faultOfGroup_58  {n_x1 : Int32} {x1 : Int} (e_x1 : n_x1 = iI x1) {n_x2 : Int32} {x2 : Int} (e_x2 : n_x2 = iI x2) {n_x3 : Int32} {x3 : Int} (e_x3 : n_x3 = iI x3) {n_x4 : Int32} {x4 : Int} (e_x4 : n_x4 = iI x4) {n_x5 : Int32} {x5 : Int} (e_x5 : n_x5 = iI x5) : Si iI (N12_faultOfGroup_58  n_x1 n_x2 n_x3 n_x4 n_x5) (I12_faultOfGroup_58  x1 x2 x3 x4 x5) := by
  subst e_x1
  subst e_x2
  subst e_x3
  subst e_x4
  subst e_x5
  unfold N12_faultOfGroup_58 I12_faultOfGroup_58
  refine si_ig fun h1 => ?_
  refine si_ite (cEq rfl (eLit 70) ⟨h1, (by decide)⟩) ?_ ?_
  · refine si_ig fun h2 => ?_
    refine si_ite (cEq rfl (eLit 0) ⟨h2, (by decide)⟩) ?_ ?_
    · exact (v_N12_faultOfGroup_80 rfl rfl rfl)
    · exact si_re (eLit 2)
  · refine si_ig fun h2 => ?_
    refine si_ite (cLt rfl rfl ⟨h2, h1⟩) ?_ ?_
    · exact (v_N12_faultOfGroup_80 rfl rfl rfl)
    · exact si_re (eLit 2)
def I12_faultOfGroup (a1 : Int) (a2 : Int) (a3 : Int) : IM Int :=
  ib (iaI 26 a1) fun v1 =>
  ib (iaI 27 a1) fun v2 =>
  ib (iaZ 28 a1) fun v3 =>
  ig (R32 v3) <|
  if v3 = 0 then ((I12_faultOfGroup_58 a1 a2 a3 v1 v2)) else (ig (R32 v1) <|
  if v1 = 0 then (ir 1) else (if v1 = 70 then (ir 1) else (ig (R32 v2) <|
  if v2 = 0 then (ir 1) else (if v2 = 70 then (ir 1) else (if v1 < v2 then ((I12_faultOfGroup_58 a1 a2 a3 v1 v2)) else (ir 1))))))
theorem v_N12_faultOfGroup  {n_a1 : Int32} {a1 : Int} (e_a1 : n_a1 = iI a1) {n_a2 : Int32} {a2 : Int} (e_a2 : n_a2 = iI a2) {n_a3 : Int32} {a3 : Int} (e_a3 : n_a3 = iI a3) : Si iI (N12_faultOfGroup  n_a1 n_a2 n_a3) (I12_faultOfGroup  a1 a2 a3) := by
  subst e_a1
  subst e_a2
  subst e_a3
  unfold N12_faultOfGroup I12_faultOfGroup
  refine si_b (si_aI rfl) fun v1 => ?_
  refine si_b (si_aI rfl) fun v2 => ?_
  refine si_b (si_aZ rfl) fun v3 => ?_
  refine si_ig fun h1 => ?_
  refine si_ite (cEq rfl (eLit 0) ⟨h1, (by decide)⟩) ?_ ?_
  · exact (v_N12_faultOfGroup_58 rfl rfl rfl rfl rfl)
  · refine si_ig fun h2 => ?_
    refine si_ite (cEq rfl (eLit 0) ⟨h2, (by decide)⟩) ?_ ?_
    · exact si_re (eLit 1)
    · refine si_ite (cEq rfl (eLit 70) ⟨h2, (by decide)⟩) ?_ ?_
      · exact si_re (eLit 1)
      · refine si_ig fun h3 => ?_
        refine si_ite (cEq rfl (eLit 0) ⟨h3, (by decide)⟩) ?_ ?_
        · exact si_re (eLit 1)
        · refine si_ite (cEq rfl (eLit 70) ⟨h3, (by decide)⟩) ?_ ?_
          · exact si_re (eLit 1)
          · refine si_ite (cLt rfl rfl ⟨h2, h3⟩) ?_ ?_
            · exact (v_N12_faultOfGroup_58 rfl rfl rfl rfl rfl)
            · exact si_re (eLit 1)
def I12_faultOfAll_54 (k6 : Int → Int → Int → IM Int) (x1 : Int) (x2 : Int) (x3 : Int) : IM Int :=
  (k6 x1 x2 (x3 + 1))
theorem v_N12_faultOfAll_54 {n_k6 : Int32 → Int32 → Int32 → NM Int32} {k6 : Int → Int → Int → IM Int} (hk6 : ∀ {n0 : Int32} {z0 : Int} (_ : n0 = iI z0) {n1 : Int32} {z1 : Int} (_ : n1 = iI z1) {n2 : Int32} {z2 : Int} (_ : n2 = iI z2), Si iI (n_k6 n0 n1 n2) (k6 z0 z1 z2)) {n_x1 : Int32} {x1 : Int} (e_x1 : n_x1 = iI x1) {n_x2 : Int32} {x2 : Int} (e_x2 : n_x2 = iI x2) {n_x3 : Int32} {x3 : Int} (e_x3 : n_x3 = iI x3) : Si iI (N12_faultOfAll_54 n_k6 n_x1 n_x2 n_x3) (I12_faultOfAll_54 k6 x1 x2 x3) := by
  subst e_x1
  subst e_x2
  subst e_x3
  unfold N12_faultOfAll_54 I12_faultOfAll_54
  exact (hk6 rfl rfl (eAdd rfl (eLit 1)))
def I12_faultOfAll_6_st (k6 : Int → Int → Int → IM Int) (x1 : Int) (x2 : Int) (x3 : Int) : IM Int :=
  ib (igI 24) fun v1 =>
  ig (R32 v1) <|
  ig (R32 x3) <|
  if v1 ≤ x3 then (ir 0) else (ib (I12_faultOfGroup x3 x1 x2) fun v2 =>
  ig (R32 v2) <|
  if v2 ≤ 0 then (ib (iaI 26 x3) fun v3 =>
  ig (R32 v3) <|
  if v3 = 70 then ((I12_faultOfAll_54 k6 x1 1 x3)) else (ib (iaI 27 x3) fun v4 =>
  (I12_faultOfAll_54 k6 v4 x2 x3))) else (ir v2))
theorem v_N12_faultOfAll_6_st {n_k6 : Int32 → Int32 → Int32 → NM Int32} {k6 : Int → Int → Int → IM Int} (hk6 : ∀ {n0 : Int32} {z0 : Int} (_ : n0 = iI z0) {n1 : Int32} {z1 : Int} (_ : n1 = iI z1) {n2 : Int32} {z2 : Int} (_ : n2 = iI z2), Si iI (n_k6 n0 n1 n2) (k6 z0 z1 z2)) {n_x1 : Int32} {x1 : Int} (e_x1 : n_x1 = iI x1) {n_x2 : Int32} {x2 : Int} (e_x2 : n_x2 = iI x2) {n_x3 : Int32} {x3 : Int} (e_x3 : n_x3 = iI x3) : Si iI (N12_faultOfAll_6_st n_k6 n_x1 n_x2 n_x3) (I12_faultOfAll_6_st k6 x1 x2 x3) := by
  subst e_x1
  subst e_x2
  subst e_x3
  unfold N12_faultOfAll_6_st I12_faultOfAll_6_st
  refine si_b si_gI fun v1 => ?_
  refine si_ig fun h1 => ?_
  refine si_ig fun h2 => ?_
  refine si_ite (cLe rfl rfl ⟨h1, h2⟩) ?_ ?_
  · exact si_re (eLit 0)
  · refine si_b (v_N12_faultOfGroup rfl rfl rfl) fun v2 => ?_
    refine si_ig fun h3 => ?_
    refine si_ite (cLe rfl (eLit 0) ⟨h3, (by decide)⟩) ?_ ?_
    · refine si_b (si_aI rfl) fun v3 => ?_
      refine si_ig fun h4 => ?_
      refine si_ite (cEq rfl (eLit 70) ⟨h4, (by decide)⟩) ?_ ?_
      · exact (v_N12_faultOfAll_54 hk6 rfl (eLit 1) rfl)
      · refine si_b (si_aI rfl) fun v4 => ?_
        exact (v_N12_faultOfAll_54 hk6 rfl rfl rfl)
    · exact si_re rfl
def I12_faultOfAll_6 : Nat → Int → Int → Int → IM Int
  | 0 => fun _ _ _ => nof
  | n + 1 => fun x1 x2 x3 => I12_faultOfAll_6_st  (I12_faultOfAll_6  n) x1 x2 x3
theorem v_N12_faultOfAll_6  : ∀ (n : Nat) {n_x1 : Int32} {x1 : Int} (e_x1 : n_x1 = iI x1) {n_x2 : Int32} {x2 : Int} (e_x2 : n_x2 = iI x2) {n_x3 : Int32} {x3 : Int} (e_x3 : n_x3 = iI x3), Si iI (N12_faultOfAll_6  n n_x1 n_x2 n_x3) (I12_faultOfAll_6  n x1 x2 x3) := by
  intro n
  induction n with
  | zero => intro n_x1 x1 e_x1 n_x2 x2 e_x2 n_x3 x3 e_x3; exact si_nf
  | succ n ih => intro n_x1 x1 e_x1 n_x2 x2 e_x2 n_x3 x3 e_x3; exact v_N12_faultOfAll_6_st  (ih) e_x1 e_x2 e_x3
def I12_faultOfAll : IM Int :=
  (I12_faultOfAll_6 LFU (-1) 0 0)
theorem v_N12_faultOfAll  : Si iI (N12_faultOfAll  ) (I12_faultOfAll  ) := by
  unfold N12_faultOfAll I12_faultOfAll
  exact (v_N12_faultOfAll_6 LFU (eLn 1) (eLit 0) (eLit 0))
def I12_apply (a1 : Int) (a2 : Int) : IM Unit :=
  ib (iaI 33 a2) fun v1 =>
  ib (I12_gatheringOf a1 v1) fun v2 =>
  ib (iaI 34 a2) fun v3 =>
  ib (I12_spot a1 v2 v3) fun v4 =>
  ib (iaI 32 a2) fun v5 =>
  ig (R32 v5) <|
  if v5 = 43 then (ib (iaI 35 a2) fun v6 =>
  ib (isI 10 v4 v6) fun _ =>
  ir ()) else (ib (iaI 32 a2) fun v7 =>
  ig (R32 v7) <|
  if v7 = 45 then (ib (isI 9 v4 1) fun _ =>
  ir ()) else (ib (isI 9 v4 2) fun _ =>
  ir ()))
theorem v_N12_apply  {n_a1 : Int32} {a1 : Int} (e_a1 : n_a1 = iI a1) {n_a2 : Int32} {a2 : Int} (e_a2 : n_a2 = iI a2) : Si (fun x : Unit => x) (N12_apply  n_a1 n_a2) (I12_apply  a1 a2) := by
  subst e_a1
  subst e_a2
  unfold N12_apply I12_apply
  refine si_b (si_aI rfl) fun v1 => ?_
  refine si_b (v_N12_gatheringOf rfl rfl) fun v2 => ?_
  refine si_b (si_aI rfl) fun v3 => ?_
  refine si_b (v_N12_spot rfl rfl rfl) fun v4 => ?_
  refine si_b (si_aI rfl) fun v5 => ?_
  refine si_ig fun h1 => ?_
  refine si_ite (cEq rfl (eLit 43) ⟨h1, (by decide)⟩) ?_ ?_
  · refine si_b (si_aI rfl) fun v6 => ?_
    refine si_b (si_sI rfl rfl) fun _ => ?_
    exact si_rn
  · refine si_b (si_aI rfl) fun v7 => ?_
    refine si_ig fun h2 => ?_
    refine si_ite (cEq rfl (eLit 45) ⟨h2, (by decide)⟩) ?_ ?_
    · refine si_b (si_sI rfl (eLit 1)) fun _ => ?_
      exact si_rn
    · refine si_b (si_sI rfl (eLit 2)) fun _ => ?_
      exact si_rn
def I12_isMade (a1 : Int) : IM Int :=
  ib (I12_total a1) fun v1 =>
  ig (R32 v1) <|
  if v1 ≤ 400 then (ib (I12_layOut a1) fun _ =>
  ib (igI 5) fun v2 =>
  ib (ipI 5 (v2 + 1)) fun _ =>
  ib (I12_fine a1) fun v3 =>
  ir v3) else (ib (I12_no 9) fun v4 =>
  ir v4)
theorem v_N12_isMade  {n_a1 : Int32} {a1 : Int} (e_a1 : n_a1 = iI a1) : Si iI (N12_isMade  n_a1) (I12_isMade  a1) := by
  subst e_a1
  unfold N12_isMade I12_isMade
  refine si_b (v_N12_total rfl) fun v1 => ?_
  refine si_ig fun h1 => ?_
  refine si_ite (cLe rfl (eLit 400) ⟨h1, (by decide)⟩) ?_ ?_
  · refine si_b (v_N12_layOut rfl) fun _ => ?_
    refine si_b si_gI fun v2 => ?_
    refine si_b (si_pI (eAdd rfl (eLit 1))) fun _ => ?_
    refine si_b (v_N12_fine rfl) fun v3 => ?_
    exact si_re rfl
  · refine si_b (v_N12_no (eLit 9)) fun v4 => ?_
    exact si_re rfl
def I12_add_78 (x1 : Int) : IM Unit :=
  ib (iaI 6 x1) fun v1 =>
  ib (isI 6 x1 (v1 + 1)) fun _ =>
  ir ()
theorem v_N12_add_78  {n_x1 : Int32} {x1 : Int} (e_x1 : n_x1 = iI x1) : Si (fun x : Unit => x) (N12_add_78  n_x1) (I12_add_78  x1) := by
  subst e_x1
  unfold N12_add_78 I12_add_78
  refine si_b (si_aI rfl) fun v1 => ?_
  refine si_b (si_sI rfl (eAdd rfl (eLit 1))) fun _ => ?_
  exact si_rn
def I12_add_37_st (k37 : Int → Int → Int → IM Unit) (x1 : Int) (x4 : Int) (x5 : Int) : IM Unit :=
  ig (R32 x5) <|
  if 12 < x5 then ((I12_add_78 x1)) else (ib (I12_spot x1 x4 x5) fun v1 =>
  ib (isI 9 v1 0) fun _ =>
  ib (I12_spot x1 x4 x5) fun v2 =>
  ib (isI 10 v2 0) fun _ =>
  (k37 x1 x4 (x5 + 1)))
theorem v_N12_add_37_st {n_k37 : Int32 → Int32 → Int32 → NM Unit} {k37 : Int → Int → Int → IM Unit} (hk37 : ∀ {n0 : Int32} {z0 : Int} (_ : n0 = iI z0) {n1 : Int32} {z1 : Int} (_ : n1 = iI z1) {n2 : Int32} {z2 : Int} (_ : n2 = iI z2), Si (fun x : Unit => x) (n_k37 n0 n1 n2) (k37 z0 z1 z2)) {n_x1 : Int32} {x1 : Int} (e_x1 : n_x1 = iI x1) {n_x4 : Int32} {x4 : Int} (e_x4 : n_x4 = iI x4) {n_x5 : Int32} {x5 : Int} (e_x5 : n_x5 = iI x5) : Si (fun x : Unit => x) (N12_add_37_st n_k37 n_x1 n_x4 n_x5) (I12_add_37_st k37 x1 x4 x5) := by
  subst e_x1
  subst e_x4
  subst e_x5
  unfold N12_add_37_st I12_add_37_st
  refine si_ig fun h1 => ?_
  refine si_ite (cLt (eLit 12) rfl ⟨(by decide), h1⟩) ?_ ?_
  · exact (v_N12_add_78 rfl)
  · refine si_b (v_N12_spot rfl rfl rfl) fun v1 => ?_
    refine si_b (si_sI rfl (eLit 0)) fun _ => ?_
    refine si_b (v_N12_spot rfl rfl rfl) fun v2 => ?_
    refine si_b (si_sI rfl (eLit 0)) fun _ => ?_
    exact (hk37 rfl rfl (eAdd rfl (eLit 1)))
def I12_add_37 : Nat → Int → Int → Int → IM Unit
  | 0 => fun _ _ _ => nof
  | n + 1 => fun x1 x4 x5 => I12_add_37_st  (I12_add_37  n) x1 x4 x5
theorem v_N12_add_37  : ∀ (n : Nat) {n_x1 : Int32} {x1 : Int} (e_x1 : n_x1 = iI x1) {n_x4 : Int32} {x4 : Int} (e_x4 : n_x4 = iI x4) {n_x5 : Int32} {x5 : Int} (e_x5 : n_x5 = iI x5), Si (fun x : Unit => x) (N12_add_37  n n_x1 n_x4 n_x5) (I12_add_37  n x1 x4 x5) := by
  intro n
  induction n with
  | zero => intro n_x1 x1 e_x1 n_x4 x4 e_x4 n_x5 x5 e_x5; exact si_nf
  | succ n ih => intro n_x1 x1 e_x1 n_x4 x4 e_x4 n_x5 x5 e_x5; exact v_N12_add_37_st  (ih) e_x1 e_x4 e_x5
def I12_add (a1 : Int) (a2 : Int) (a3 : Int) : IM Unit :=
  ib (iaI 6 a1) fun v1 =>
  ib (isI 7 ((a1 * 71) + v1) a2) fun _ =>
  ib (isI 8 ((a1 * 71) + v1) a3) fun _ =>
  (I12_add_37 LFU a1 v1 0)
theorem v_N12_add  {n_a1 : Int32} {a1 : Int} (e_a1 : n_a1 = iI a1) {n_a2 : Int32} {a2 : Int} (e_a2 : n_a2 = iI a2) {n_a3 : Int32} {a3 : Int} (e_a3 : n_a3 = iI a3) : Si (fun x : Unit => x) (N12_add  n_a1 n_a2 n_a3) (I12_add  a1 a2 a3) := by
  subst e_a1
  subst e_a2
  subst e_a3
  unfold N12_add I12_add
  refine si_b (si_aI rfl) fun v1 => ?_
  refine si_b (si_sI (eAdd (eMul rfl (eLit 71)) rfl) rfl) fun _ => ?_
  refine si_b (si_sI (eAdd (eMul rfl (eLit 71)) rfl) rfl) fun _ => ?_
  exact (v_N12_add_37 LFU rfl rfl (eLit 0))
def I12_write (a1 : Int) : IM Unit :=
  ib (igI 37) fun v1 =>
  ib (isI 36 v1 a1) fun _ =>
  ib (igI 37) fun v2 =>
  ib (ipI 37 (v2 + 1)) fun _ =>
  ir ()
theorem v_N12_write  {n_a1 : Int32} {a1 : Int} (e_a1 : n_a1 = iI a1) : Si (fun x : Unit => x) (N12_write  n_a1) (I12_write  a1) := by
  subst e_a1
  unfold N12_write I12_write
  refine si_b si_gI fun v1 => ?_
  refine si_b (si_sI rfl rfl) fun _ => ?_
  refine si_b si_gI fun v2 => ?_
  refine si_b (si_pI (eAdd rfl (eLit 1))) fun _ => ?_
  exact si_rn
def I12_writeNumber_37 (x1 : Int) : IM Unit :=
  ib (irI x1 10) fun v1 =>
  ib (I12_write (48 + v1)) fun _ =>
  ir ()
theorem v_N12_writeNumber_37  {n_x1 : Int32} {x1 : Int} (e_x1 : n_x1 = iI x1) : Si (fun x : Unit => x) (N12_writeNumber_37  n_x1) (I12_writeNumber_37  x1) := by
  subst e_x1
  unfold N12_writeNumber_37 I12_writeNumber_37
  refine si_b (si_rI rfl (eLit 10)) fun v1 => ?_
  refine si_b (v_N12_write (eAdd (eLit 48) rfl)) fun _ => ?_
  exact si_rn
def I12_writeNumber_17 (x1 : Int) : IM Unit :=
  ig (R32 x1) <|
  if x1 ≤ 9 then ((I12_writeNumber_37 x1)) else (ib (idI x1 10) fun v1 =>
  ib (irI v1 10) fun v2 =>
  ib (I12_write (48 + v2)) fun _ =>
  (I12_writeNumber_37 x1))
theorem v_N12_writeNumber_17  {n_x1 : Int32} {x1 : Int} (e_x1 : n_x1 = iI x1) : Si (fun x : Unit => x) (N12_writeNumber_17  n_x1) (I12_writeNumber_17  x1) := by
  subst e_x1
  unfold N12_writeNumber_17 I12_writeNumber_17
  refine si_ig fun h1 => ?_
  refine si_ite (cLe rfl (eLit 9) ⟨h1, (by decide)⟩) ?_ ?_
  · exact (v_N12_writeNumber_37 rfl)
  · refine si_b (si_dI rfl (eLit 10)) fun v1 => ?_
    refine si_b (si_rI rfl (eLit 10)) fun v2 => ?_
    refine si_b (v_N12_write (eAdd (eLit 48) rfl)) fun _ => ?_
    exact (v_N12_writeNumber_37 rfl)
def I12_writeNumber (a1 : Int) : IM Unit :=
  ig (R32 a1) <|
  if a1 ≤ 99 then ((I12_writeNumber_17 a1)) else (ib (idI a1 100) fun v1 =>
  ib (I12_write (48 + v1)) fun _ =>
  (I12_writeNumber_17 a1))
theorem v_N12_writeNumber  {n_a1 : Int32} {a1 : Int} (e_a1 : n_a1 = iI a1) : Si (fun x : Unit => x) (N12_writeNumber  n_a1) (I12_writeNumber  a1) := by
  subst e_a1
  unfold N12_writeNumber I12_writeNumber
  refine si_ig fun h1 => ?_
  refine si_ite (cLe rfl (eLit 99) ⟨h1, (by decide)⟩) ?_ ?_
  · exact (v_N12_writeNumber_17 rfl)
  · refine si_b (si_dI rfl (eLit 100)) fun v1 => ?_
    refine si_b (v_N12_write (eAdd (eLit 48) rfl)) fun _ => ?_
    exact (v_N12_writeNumber_17 rfl)
def I12_writeWord_2_st (k2 : Nat → Int → IM Unit) (x1 : Nat) (x2 : Int) : IM Unit :=
  ib (iSl x1) fun v1 =>
  ig (R32 v1) <|
  ig (R32 x2) <|
  if v1 ≤ x2 then (ir ()) else (ib (iSc x1 x2) fun v2 =>
  ib (I12_write v2) fun _ =>
  (k2 x1 (x2 + 1)))
theorem v_N12_writeWord_2_st {n_k2 : Nat → Int32 → NM Unit} {k2 : Nat → Int → IM Unit} (hk2 : ∀ (z0 : Nat) {n1 : Int32} {z1 : Int} (_ : n1 = iI z1), Si (fun x : Unit => x) (n_k2 z0 n1) (k2 z0 z1)) (x1 : Nat) {n_x2 : Int32} {x2 : Int} (e_x2 : n_x2 = iI x2) : Si (fun x : Unit => x) (N12_writeWord_2_st n_k2 x1 n_x2) (I12_writeWord_2_st k2 x1 x2) := by
  subst e_x2
  unfold N12_writeWord_2_st I12_writeWord_2_st
  refine si_b si_Sl fun v1 => ?_
  refine si_ig fun h1 => ?_
  refine si_ig fun h2 => ?_
  refine si_ite (cLe rfl rfl ⟨h1, h2⟩) ?_ ?_
  · exact si_rn
  · refine si_b (si_Sc rfl) fun v2 => ?_
    refine si_b (v_N12_write rfl) fun _ => ?_
    exact (hk2 x1 (eAdd rfl (eLit 1)))
def I12_writeWord_2 : Nat → Nat → Int → IM Unit
  | 0 => fun _ _ => nof
  | n + 1 => fun x1 x2 => I12_writeWord_2_st  (I12_writeWord_2  n) x1 x2
theorem v_N12_writeWord_2  : ∀ (n : Nat) (x1 : Nat) {n_x2 : Int32} {x2 : Int} (e_x2 : n_x2 = iI x2), Si (fun x : Unit => x) (N12_writeWord_2  n x1 n_x2) (I12_writeWord_2  n x1 x2) := by
  intro n
  induction n with
  | zero => intro x1 n_x2 x2 e_x2; exact si_nf
  | succ n ih => intro x1 n_x2 x2 e_x2; exact v_N12_writeWord_2_st  (ih) x1 e_x2
def I12_writeWord (a1 : Nat) : IM Unit :=
  (I12_writeWord_2 LFU a1 0)
theorem v_N12_writeWord  (a1 : Nat) : Si (fun x : Unit => x) (N12_writeWord  a1) (I12_writeWord  a1) := by
  unfold N12_writeWord I12_writeWord
  exact (v_N12_writeWord_2 LFU a1 (eLit 0))
def I12_writeSign_30_st (k30 : Int → Int → IM Unit) (x1 : Int) (x2 : Int) : IM Unit :=
  ib (idI (x1 - 1) 23) fun v1 =>
  ig (R32 v1) <|
  ig (R32 x2) <|
  if v1 < x2 then (ir ()) else (ib (irI (x1 - 1) 23) fun v2 =>
  ib (iSc 12 v2) fun v3 =>
  ib (I12_write v3) fun _ =>
  (k30 x1 (x2 + 1)))
theorem v_N12_writeSign_30_st {n_k30 : Int32 → Int32 → NM Unit} {k30 : Int → Int → IM Unit} (hk30 : ∀ {n0 : Int32} {z0 : Int} (_ : n0 = iI z0) {n1 : Int32} {z1 : Int} (_ : n1 = iI z1), Si (fun x : Unit => x) (n_k30 n0 n1) (k30 z0 z1)) {n_x1 : Int32} {x1 : Int} (e_x1 : n_x1 = iI x1) {n_x2 : Int32} {x2 : Int} (e_x2 : n_x2 = iI x2) : Si (fun x : Unit => x) (N12_writeSign_30_st n_k30 n_x1 n_x2) (I12_writeSign_30_st k30 x1 x2) := by
  subst e_x1
  subst e_x2
  unfold N12_writeSign_30_st I12_writeSign_30_st
  refine si_b (si_dI (eSub rfl (eLit 1)) (eLit 23)) fun v1 => ?_
  refine si_ig fun h1 => ?_
  refine si_ig fun h2 => ?_
  refine si_ite (cLt rfl rfl ⟨h1, h2⟩) ?_ ?_
  · exact si_rn
  · refine si_b (si_rI (eSub rfl (eLit 1)) (eLit 23)) fun v2 => ?_
    refine si_b (si_Sc rfl) fun v3 => ?_
    refine si_b (v_N12_write rfl) fun _ => ?_
    exact (hk30 rfl (eAdd rfl (eLit 1)))
def I12_writeSign_30 : Nat → Int → Int → IM Unit
  | 0 => fun _ _ => nof
  | n + 1 => fun x1 x2 => I12_writeSign_30_st  (I12_writeSign_30  n) x1 x2
theorem v_N12_writeSign_30  : ∀ (n : Nat) {n_x1 : Int32} {x1 : Int} (e_x1 : n_x1 = iI x1) {n_x2 : Int32} {x2 : Int} (e_x2 : n_x2 = iI x2), Si (fun x : Unit => x) (N12_writeSign_30  n n_x1 n_x2) (I12_writeSign_30  n x1 x2) := by
  intro n
  induction n with
  | zero => intro n_x1 x1 e_x1 n_x2 x2 e_x2; exact si_nf
  | succ n ih => intro n_x1 x1 e_x1 n_x2 x2 e_x2; exact v_N12_writeSign_30_st  (ih) e_x1 e_x2
def I12_writeSign (a1 : Int) : IM Unit :=
  ig (R32 a1) <|
  if a1 = 0 then (ib (I12_writeWord 10) fun _ =>
  ir ()) else (if a1 = 70 then (ib (I12_writeWord 11) fun _ =>
  ir ()) else ((I12_writeSign_30 LFU a1 0)))
theorem v_N12_writeSign  {n_a1 : Int32} {a1 : Int} (e_a1 : n_a1 = iI a1) : Si (fun x : Unit => x) (N12_writeSign  n_a1) (I12_writeSign  a1) := by
  subst e_a1
  unfold N12_writeSign I12_writeSign
  refine si_ig fun h1 => ?_
  refine si_ite (cEq rfl (eLit 0) ⟨h1, (by decide)⟩) ?_ ?_
  · refine si_b (v_N12_writeWord 10) fun _ => ?_
    exact si_rn
  · refine si_ite (cEq rfl (eLit 70) ⟨h1, (by decide)⟩) ?_ ?_
    · refine si_b (v_N12_writeWord 11) fun _ => ?_
      exact si_rn
    · exact (v_N12_writeSign_30 LFU rfl (eLit 0))
def I12_isLetters (a0 : Int) : IM Int :=
  ig (R32 a0) <|
  if a0 = 0 then (ir 0) else (if a0 = 70 then (ir 0) else (ir 1))
theorem v_N12_isLetters  {n_a0 : Int32} {a0 : Int} (e_a0 : n_a0 = iI a0) : Si iI (N12_isLetters  n_a0) (I12_isLetters  a0) := by
  subst e_a0
  unfold N12_isLetters I12_isLetters
  refine si_ig fun h1 => ?_
  refine si_ite (cEq rfl (eLit 0) ⟨h1, (by decide)⟩) ?_ ?_
  · exact si_re (eLit 0)
  · refine si_ite (cEq rfl (eLit 70) ⟨h1, (by decide)⟩) ?_ ?_
    · exact si_re (eLit 0)
    · exact si_re (eLit 1)
def I12_writeChanges_172 (k6 : Int → Int → Int → Int → IM Unit) (k15 : Int → Int → Int → Int → Int → IM Unit) (k45 : Int → Int → Int → Int → Int → Int → Int → IM Unit) (x1 : Int) (x3 : Int) (x4 : Int) (x5 : Int) (x6 : Int) (x7 : Int) (x8 : Int) : IM Unit :=
  (k45 x1 x3 x4 x5 x6 x7 (x8 + 1))
theorem v_N12_writeChanges_172 {n_k6 : Int32 → Int32 → Int32 → Int32 → NM Unit} {k6 : Int → Int → Int → Int → IM Unit} (hk6 : ∀ {n0 : Int32} {z0 : Int} (_ : n0 = iI z0) {n1 : Int32} {z1 : Int} (_ : n1 = iI z1) {n2 : Int32} {z2 : Int} (_ : n2 = iI z2) {n3 : Int32} {z3 : Int} (_ : n3 = iI z3), Si (fun x : Unit => x) (n_k6 n0 n1 n2 n3) (k6 z0 z1 z2 z3)) {n_k15 : Int32 → Int32 → Int32 → Int32 → Int32 → NM Unit} {k15 : Int → Int → Int → Int → Int → IM Unit} (hk15 : ∀ {n0 : Int32} {z0 : Int} (_ : n0 = iI z0) {n1 : Int32} {z1 : Int} (_ : n1 = iI z1) {n2 : Int32} {z2 : Int} (_ : n2 = iI z2) {n3 : Int32} {z3 : Int} (_ : n3 = iI z3) {n4 : Int32} {z4 : Int} (_ : n4 = iI z4), Si (fun x : Unit => x) (n_k15 n0 n1 n2 n3 n4) (k15 z0 z1 z2 z3 z4)) {n_k45 : Int32 → Int32 → Int32 → Int32 → Int32 → Int32 → Int32 → NM Unit} {k45 : Int → Int → Int → Int → Int → Int → Int → IM Unit} (hk45 : ∀ {n0 : Int32} {z0 : Int} (_ : n0 = iI z0) {n1 : Int32} {z1 : Int} (_ : n1 = iI z1) {n2 : Int32} {z2 : Int} (_ : n2 = iI z2) {n3 : Int32} {z3 : Int} (_ : n3 = iI z3) {n4 : Int32} {z4 : Int} (_ : n4 = iI z4) {n5 : Int32} {z5 : Int} (_ : n5 = iI z5) {n6 : Int32} {z6 : Int} (_ : n6 = iI z6), Si (fun x : Unit => x) (n_k45 n0 n1 n2 n3 n4 n5 n6) (k45 z0 z1 z2 z3 z4 z5 z6)) {n_x1 : Int32} {x1 : Int} (e_x1 : n_x1 = iI x1) {n_x3 : Int32} {x3 : Int} (e_x3 : n_x3 = iI x3) {n_x4 : Int32} {x4 : Int} (e_x4 : n_x4 = iI x4) {n_x5 : Int32} {x5 : Int} (e_x5 : n_x5 = iI x5) {n_x6 : Int32} {x6 : Int} (e_x6 : n_x6 = iI x6) {n_x7 : Int32} {x7 : Int} (e_x7 : n_x7 = iI x7) {n_x8 : Int32} {x8 : Int} (e_x8 : n_x8 = iI x8) : Si (fun x : Unit => x) (N12_writeChanges_172 n_k6 n_k15 n_k45 n_x1 n_x3 n_x4 n_x5 n_x6 n_x7 n_x8) (I12_writeChanges_172 k6 k15 k45 x1 x3 x4 x5 x6 x7 x8) := by
  subst e_x1
  subst e_x3
  subst e_x4
  subst e_x5
  subst e_x6
  subst e_x7
  subst e_x8
  unfold N12_writeChanges_172 I12_writeChanges_172
  exact (hk45 rfl rfl rfl rfl rfl rfl (eAdd rfl (eLit 1)))
def I12_writeChanges_125 (k6 : Int → Int → Int → Int → IM Unit) (k15 : Int → Int → Int → Int → Int → IM Unit) (k45 : Int → Int → Int → Int → Int → Int → Int → IM Unit) (x1 : Int) (x3 : Int) (x4 : Int) (x5 : Int) (x6 : Int) (x7 : Int) (x8 : Int) : IM Unit :=
  ib (iaI 7 ((x1 * 71) + x5)) fun v1 =>
  ib (I12_writeSign v1) fun _ =>
  ib (I12_writeNumber x6) fun _ =>
  ig (R32 x8) <|
  if x8 = 0 then ((I12_writeChanges_172 k6 k15 k45 x1 x3 x4 x5 x6 x7 x8)) else (ib (I12_write 43) fun _ =>
  ib (iaI 10 x7) fun v2 =>
  ib (I12_writeNumber v2) fun _ =>
  (I12_writeChanges_172 k6 k15 k45 x1 x3 x4 x5 x6 x7 x8))
theorem v_N12_writeChanges_125 {n_k6 : Int32 → Int32 → Int32 → Int32 → NM Unit} {k6 : Int → Int → Int → Int → IM Unit} (hk6 : ∀ {n0 : Int32} {z0 : Int} (_ : n0 = iI z0) {n1 : Int32} {z1 : Int} (_ : n1 = iI z1) {n2 : Int32} {z2 : Int} (_ : n2 = iI z2) {n3 : Int32} {z3 : Int} (_ : n3 = iI z3), Si (fun x : Unit => x) (n_k6 n0 n1 n2 n3) (k6 z0 z1 z2 z3)) {n_k15 : Int32 → Int32 → Int32 → Int32 → Int32 → NM Unit} {k15 : Int → Int → Int → Int → Int → IM Unit} (hk15 : ∀ {n0 : Int32} {z0 : Int} (_ : n0 = iI z0) {n1 : Int32} {z1 : Int} (_ : n1 = iI z1) {n2 : Int32} {z2 : Int} (_ : n2 = iI z2) {n3 : Int32} {z3 : Int} (_ : n3 = iI z3) {n4 : Int32} {z4 : Int} (_ : n4 = iI z4), Si (fun x : Unit => x) (n_k15 n0 n1 n2 n3 n4) (k15 z0 z1 z2 z3 z4)) {n_k45 : Int32 → Int32 → Int32 → Int32 → Int32 → Int32 → Int32 → NM Unit} {k45 : Int → Int → Int → Int → Int → Int → Int → IM Unit} (hk45 : ∀ {n0 : Int32} {z0 : Int} (_ : n0 = iI z0) {n1 : Int32} {z1 : Int} (_ : n1 = iI z1) {n2 : Int32} {z2 : Int} (_ : n2 = iI z2) {n3 : Int32} {z3 : Int} (_ : n3 = iI z3) {n4 : Int32} {z4 : Int} (_ : n4 = iI z4) {n5 : Int32} {z5 : Int} (_ : n5 = iI z5) {n6 : Int32} {z6 : Int} (_ : n6 = iI z6), Si (fun x : Unit => x) (n_k45 n0 n1 n2 n3 n4 n5 n6) (k45 z0 z1 z2 z3 z4 z5 z6)) {n_x1 : Int32} {x1 : Int} (e_x1 : n_x1 = iI x1) {n_x3 : Int32} {x3 : Int} (e_x3 : n_x3 = iI x3) {n_x4 : Int32} {x4 : Int} (e_x4 : n_x4 = iI x4) {n_x5 : Int32} {x5 : Int} (e_x5 : n_x5 = iI x5) {n_x6 : Int32} {x6 : Int} (e_x6 : n_x6 = iI x6) {n_x7 : Int32} {x7 : Int} (e_x7 : n_x7 = iI x7) {n_x8 : Int32} {x8 : Int} (e_x8 : n_x8 = iI x8) : Si (fun x : Unit => x) (N12_writeChanges_125 n_k6 n_k15 n_k45 n_x1 n_x3 n_x4 n_x5 n_x6 n_x7 n_x8) (I12_writeChanges_125 k6 k15 k45 x1 x3 x4 x5 x6 x7 x8) := by
  subst e_x1
  subst e_x3
  subst e_x4
  subst e_x5
  subst e_x6
  subst e_x7
  subst e_x8
  unfold N12_writeChanges_125 I12_writeChanges_125
  refine si_b (si_aI (eAdd (eMul rfl (eLit 71)) rfl)) fun v1 => ?_
  refine si_b (v_N12_writeSign rfl) fun _ => ?_
  refine si_b (v_N12_writeNumber rfl) fun _ => ?_
  refine si_ig fun h1 => ?_
  refine si_ite (cEq rfl (eLit 0) ⟨h1, (by decide)⟩) ?_ ?_
  · exact (v_N12_writeChanges_172 hk6 hk15 hk45 rfl rfl rfl rfl rfl rfl rfl)
  · refine si_b (v_N12_write (eLit 43)) fun _ => ?_
    refine si_b (si_aI rfl) fun v2 => ?_
    refine si_b (v_N12_writeNumber rfl) fun _ => ?_
    exact (v_N12_writeChanges_172 hk6 hk15 hk45 rfl rfl rfl rfl rfl rfl rfl)
def I12_writeChanges_122 (k6 : Int → Int → Int → Int → IM Unit) (k15 : Int → Int → Int → Int → Int → IM Unit) (k45 : Int → Int → Int → Int → Int → Int → Int → IM Unit) (x1 : Int) (x3 : Int) (x4 : Int) (x5 : Int) (x6 : Int) (x7 : Int) (x8 : Int) (y0 : Int) : IM Unit :=
  ib (I12_write y0) fun _ =>
  (I12_writeChanges_125 k6 k15 k45 x1 x3 x4 x5 x6 x7 x8)
theorem v_N12_writeChanges_122 {n_k6 : Int32 → Int32 → Int32 → Int32 → NM Unit} {k6 : Int → Int → Int → Int → IM Unit} (hk6 : ∀ {n0 : Int32} {z0 : Int} (_ : n0 = iI z0) {n1 : Int32} {z1 : Int} (_ : n1 = iI z1) {n2 : Int32} {z2 : Int} (_ : n2 = iI z2) {n3 : Int32} {z3 : Int} (_ : n3 = iI z3), Si (fun x : Unit => x) (n_k6 n0 n1 n2 n3) (k6 z0 z1 z2 z3)) {n_k15 : Int32 → Int32 → Int32 → Int32 → Int32 → NM Unit} {k15 : Int → Int → Int → Int → Int → IM Unit} (hk15 : ∀ {n0 : Int32} {z0 : Int} (_ : n0 = iI z0) {n1 : Int32} {z1 : Int} (_ : n1 = iI z1) {n2 : Int32} {z2 : Int} (_ : n2 = iI z2) {n3 : Int32} {z3 : Int} (_ : n3 = iI z3) {n4 : Int32} {z4 : Int} (_ : n4 = iI z4), Si (fun x : Unit => x) (n_k15 n0 n1 n2 n3 n4) (k15 z0 z1 z2 z3 z4)) {n_k45 : Int32 → Int32 → Int32 → Int32 → Int32 → Int32 → Int32 → NM Unit} {k45 : Int → Int → Int → Int → Int → Int → Int → IM Unit} (hk45 : ∀ {n0 : Int32} {z0 : Int} (_ : n0 = iI z0) {n1 : Int32} {z1 : Int} (_ : n1 = iI z1) {n2 : Int32} {z2 : Int} (_ : n2 = iI z2) {n3 : Int32} {z3 : Int} (_ : n3 = iI z3) {n4 : Int32} {z4 : Int} (_ : n4 = iI z4) {n5 : Int32} {z5 : Int} (_ : n5 = iI z5) {n6 : Int32} {z6 : Int} (_ : n6 = iI z6), Si (fun x : Unit => x) (n_k45 n0 n1 n2 n3 n4 n5 n6) (k45 z0 z1 z2 z3 z4 z5 z6)) {n_x1 : Int32} {x1 : Int} (e_x1 : n_x1 = iI x1) {n_x3 : Int32} {x3 : Int} (e_x3 : n_x3 = iI x3) {n_x4 : Int32} {x4 : Int} (e_x4 : n_x4 = iI x4) {n_x5 : Int32} {x5 : Int} (e_x5 : n_x5 = iI x5) {n_x6 : Int32} {x6 : Int} (e_x6 : n_x6 = iI x6) {n_x7 : Int32} {x7 : Int} (e_x7 : n_x7 = iI x7) {n_x8 : Int32} {x8 : Int} (e_x8 : n_x8 = iI x8) {n_y0 : Int32} {y0 : Int} (e_y0 : n_y0 = iI y0) : Si (fun x : Unit => x) (N12_writeChanges_122 n_k6 n_k15 n_k45 n_x1 n_x3 n_x4 n_x5 n_x6 n_x7 n_x8 n_y0) (I12_writeChanges_122 k6 k15 k45 x1 x3 x4 x5 x6 x7 x8 y0) := by
  subst e_x1
  subst e_x3
  subst e_x4
  subst e_x5
  subst e_x6
  subst e_x7
  subst e_x8
  subst e_y0
  unfold N12_writeChanges_122 I12_writeChanges_122
  refine si_b (v_N12_write rfl) fun _ => ?_
  exact (v_N12_writeChanges_125 hk6 hk15 hk45 rfl rfl rfl rfl rfl rfl rfl)
def I12_writeChanges_92 (k6 : Int → Int → Int → Int → IM Unit) (k15 : Int → Int → Int → Int → Int → IM Unit) (k45 : Int → Int → Int → Int → Int → Int → Int → IM Unit) (x1 : Int) (x3 : Int) (x5 : Int) (x6 : Int) (x7 : Int) (x8 : Int) (y0 : Int) : IM Unit :=
  ib (I12_write y0) fun _ =>
  ig (R32 x8) <|
  if x8 = 0 then (ib (iaI 9 x7) fun v1 =>
  ig (R32 v1) <|
  if v1 = 1 then ((I12_writeChanges_122 k6 k15 k45 x1 x3 1 x5 x6 x7 x8 45)) else ((I12_writeChanges_122 k6 k15 k45 x1 x3 1 x5 x6 x7 x8 61))) else ((I12_writeChanges_125 k6 k15 k45 x1 x3 1 x5 x6 x7 x8))
theorem v_N12_writeChanges_92 {n_k6 : Int32 → Int32 → Int32 → Int32 → NM Unit} {k6 : Int → Int → Int → Int → IM Unit} (hk6 : ∀ {n0 : Int32} {z0 : Int} (_ : n0 = iI z0) {n1 : Int32} {z1 : Int} (_ : n1 = iI z1) {n2 : Int32} {z2 : Int} (_ : n2 = iI z2) {n3 : Int32} {z3 : Int} (_ : n3 = iI z3), Si (fun x : Unit => x) (n_k6 n0 n1 n2 n3) (k6 z0 z1 z2 z3)) {n_k15 : Int32 → Int32 → Int32 → Int32 → Int32 → NM Unit} {k15 : Int → Int → Int → Int → Int → IM Unit} (hk15 : ∀ {n0 : Int32} {z0 : Int} (_ : n0 = iI z0) {n1 : Int32} {z1 : Int} (_ : n1 = iI z1) {n2 : Int32} {z2 : Int} (_ : n2 = iI z2) {n3 : Int32} {z3 : Int} (_ : n3 = iI z3) {n4 : Int32} {z4 : Int} (_ : n4 = iI z4), Si (fun x : Unit => x) (n_k15 n0 n1 n2 n3 n4) (k15 z0 z1 z2 z3 z4)) {n_k45 : Int32 → Int32 → Int32 → Int32 → Int32 → Int32 → Int32 → NM Unit} {k45 : Int → Int → Int → Int → Int → Int → Int → IM Unit} (hk45 : ∀ {n0 : Int32} {z0 : Int} (_ : n0 = iI z0) {n1 : Int32} {z1 : Int} (_ : n1 = iI z1) {n2 : Int32} {z2 : Int} (_ : n2 = iI z2) {n3 : Int32} {z3 : Int} (_ : n3 = iI z3) {n4 : Int32} {z4 : Int} (_ : n4 = iI z4) {n5 : Int32} {z5 : Int} (_ : n5 = iI z5) {n6 : Int32} {z6 : Int} (_ : n6 = iI z6), Si (fun x : Unit => x) (n_k45 n0 n1 n2 n3 n4 n5 n6) (k45 z0 z1 z2 z3 z4 z5 z6)) {n_x1 : Int32} {x1 : Int} (e_x1 : n_x1 = iI x1) {n_x3 : Int32} {x3 : Int} (e_x3 : n_x3 = iI x3) {n_x5 : Int32} {x5 : Int} (e_x5 : n_x5 = iI x5) {n_x6 : Int32} {x6 : Int} (e_x6 : n_x6 = iI x6) {n_x7 : Int32} {x7 : Int} (e_x7 : n_x7 = iI x7) {n_x8 : Int32} {x8 : Int} (e_x8 : n_x8 = iI x8) {n_y0 : Int32} {y0 : Int} (e_y0 : n_y0 = iI y0) : Si (fun x : Unit => x) (N12_writeChanges_92 n_k6 n_k15 n_k45 n_x1 n_x3 n_x5 n_x6 n_x7 n_x8 n_y0) (I12_writeChanges_92 k6 k15 k45 x1 x3 x5 x6 x7 x8 y0) := by
  subst e_x1
  subst e_x3
  subst e_x5
  subst e_x6
  subst e_x7
  subst e_x8
  subst e_y0
  unfold N12_writeChanges_92 I12_writeChanges_92
  refine si_b (v_N12_write rfl) fun _ => ?_
  refine si_ig fun h1 => ?_
  refine si_ite (cEq rfl (eLit 0) ⟨h1, (by decide)⟩) ?_ ?_
  · refine si_b (si_aI rfl) fun v1 => ?_
    refine si_ig fun h2 => ?_
    refine si_ite (cEq rfl (eLit 1) ⟨h2, (by decide)⟩) ?_ ?_
    · exact (v_N12_writeChanges_122 hk6 hk15 hk45 rfl rfl (eLit 1) rfl rfl rfl rfl (eLit 45))
    · exact (v_N12_writeChanges_122 hk6 hk15 hk45 rfl rfl (eLit 1) rfl rfl rfl rfl (eLit 61))
  · exact (v_N12_writeChanges_125 hk6 hk15 hk45 rfl rfl (eLit 1) rfl rfl rfl rfl)
def I12_writeChanges_73 (k6 : Int → Int → Int → Int → IM Unit) (k15 : Int → Int → Int → Int → Int → IM Unit) (k45 : Int → Int → Int → Int → Int → Int → Int → IM Unit) (x1 : Int) (x3 : Int) (x4 : Int) (x5 : Int) (x6 : Int) (x7 : Int) (x8 : Int) (y0 : Int) : IM Unit :=
  ig (R32 y0) <|
  if y0 = 0 then ((I12_writeChanges_172 k6 k15 k45 x1 x3 x4 x5 x6 x7 x8)) else (ig (R32 x4) <|
  if x4 = 0 then ((I12_writeChanges_92 k6 k15 k45 x1 x3 x5 x6 x7 x8 40)) else ((I12_writeChanges_92 k6 k15 k45 x1 x3 x5 x6 x7 x8 44)))
theorem v_N12_writeChanges_73 {n_k6 : Int32 → Int32 → Int32 → Int32 → NM Unit} {k6 : Int → Int → Int → Int → IM Unit} (hk6 : ∀ {n0 : Int32} {z0 : Int} (_ : n0 = iI z0) {n1 : Int32} {z1 : Int} (_ : n1 = iI z1) {n2 : Int32} {z2 : Int} (_ : n2 = iI z2) {n3 : Int32} {z3 : Int} (_ : n3 = iI z3), Si (fun x : Unit => x) (n_k6 n0 n1 n2 n3) (k6 z0 z1 z2 z3)) {n_k15 : Int32 → Int32 → Int32 → Int32 → Int32 → NM Unit} {k15 : Int → Int → Int → Int → Int → IM Unit} (hk15 : ∀ {n0 : Int32} {z0 : Int} (_ : n0 = iI z0) {n1 : Int32} {z1 : Int} (_ : n1 = iI z1) {n2 : Int32} {z2 : Int} (_ : n2 = iI z2) {n3 : Int32} {z3 : Int} (_ : n3 = iI z3) {n4 : Int32} {z4 : Int} (_ : n4 = iI z4), Si (fun x : Unit => x) (n_k15 n0 n1 n2 n3 n4) (k15 z0 z1 z2 z3 z4)) {n_k45 : Int32 → Int32 → Int32 → Int32 → Int32 → Int32 → Int32 → NM Unit} {k45 : Int → Int → Int → Int → Int → Int → Int → IM Unit} (hk45 : ∀ {n0 : Int32} {z0 : Int} (_ : n0 = iI z0) {n1 : Int32} {z1 : Int} (_ : n1 = iI z1) {n2 : Int32} {z2 : Int} (_ : n2 = iI z2) {n3 : Int32} {z3 : Int} (_ : n3 = iI z3) {n4 : Int32} {z4 : Int} (_ : n4 = iI z4) {n5 : Int32} {z5 : Int} (_ : n5 = iI z5) {n6 : Int32} {z6 : Int} (_ : n6 = iI z6), Si (fun x : Unit => x) (n_k45 n0 n1 n2 n3 n4 n5 n6) (k45 z0 z1 z2 z3 z4 z5 z6)) {n_x1 : Int32} {x1 : Int} (e_x1 : n_x1 = iI x1) {n_x3 : Int32} {x3 : Int} (e_x3 : n_x3 = iI x3) {n_x4 : Int32} {x4 : Int} (e_x4 : n_x4 = iI x4) {n_x5 : Int32} {x5 : Int} (e_x5 : n_x5 = iI x5) {n_x6 : Int32} {x6 : Int} (e_x6 : n_x6 = iI x6) {n_x7 : Int32} {x7 : Int} (e_x7 : n_x7 = iI x7) {n_x8 : Int32} {x8 : Int} (e_x8 : n_x8 = iI x8) {n_y0 : Int32} {y0 : Int} (e_y0 : n_y0 = iI y0) : Si (fun x : Unit => x) (N12_writeChanges_73 n_k6 n_k15 n_k45 n_x1 n_x3 n_x4 n_x5 n_x6 n_x7 n_x8 n_y0) (I12_writeChanges_73 k6 k15 k45 x1 x3 x4 x5 x6 x7 x8 y0) := by
  subst e_x1
  subst e_x3
  subst e_x4
  subst e_x5
  subst e_x6
  subst e_x7
  subst e_x8
  subst e_y0
  unfold N12_writeChanges_73 I12_writeChanges_73
  refine si_ig fun h1 => ?_
  refine si_ite (cEq rfl (eLit 0) ⟨h1, (by decide)⟩) ?_ ?_
  · exact (v_N12_writeChanges_172 hk6 hk15 hk45 rfl rfl rfl rfl rfl rfl rfl)
  · refine si_ig fun h2 => ?_
    refine si_ite (cEq rfl (eLit 0) ⟨h2, (by decide)⟩) ?_ ?_
    · exact (v_N12_writeChanges_92 hk6 hk15 hk45 rfl rfl rfl rfl rfl rfl (eLit 40))
    · exact (v_N12_writeChanges_92 hk6 hk15 hk45 rfl rfl rfl rfl rfl rfl (eLit 44))
def I12_writeChanges_178 (k6 : Int → Int → Int → Int → IM Unit) (k15 : Int → Int → Int → Int → Int → IM Unit) (x1 : Int) (x3 : Int) (x4 : Int) (x5 : Int) (x6 : Int) : IM Unit :=
  (k15 x1 x3 x4 x5 (x6 + 1))
theorem v_N12_writeChanges_178 {n_k6 : Int32 → Int32 → Int32 → Int32 → NM Unit} {k6 : Int → Int → Int → Int → IM Unit} (hk6 : ∀ {n0 : Int32} {z0 : Int} (_ : n0 = iI z0) {n1 : Int32} {z1 : Int} (_ : n1 = iI z1) {n2 : Int32} {z2 : Int} (_ : n2 = iI z2) {n3 : Int32} {z3 : Int} (_ : n3 = iI z3), Si (fun x : Unit => x) (n_k6 n0 n1 n2 n3) (k6 z0 z1 z2 z3)) {n_k15 : Int32 → Int32 → Int32 → Int32 → Int32 → NM Unit} {k15 : Int → Int → Int → Int → Int → IM Unit} (hk15 : ∀ {n0 : Int32} {z0 : Int} (_ : n0 = iI z0) {n1 : Int32} {z1 : Int} (_ : n1 = iI z1) {n2 : Int32} {z2 : Int} (_ : n2 = iI z2) {n3 : Int32} {z3 : Int} (_ : n3 = iI z3) {n4 : Int32} {z4 : Int} (_ : n4 = iI z4), Si (fun x : Unit => x) (n_k15 n0 n1 n2 n3 n4) (k15 z0 z1 z2 z3 z4)) {n_x1 : Int32} {x1 : Int} (e_x1 : n_x1 = iI x1) {n_x3 : Int32} {x3 : Int} (e_x3 : n_x3 = iI x3) {n_x4 : Int32} {x4 : Int} (e_x4 : n_x4 = iI x4) {n_x5 : Int32} {x5 : Int} (e_x5 : n_x5 = iI x5) {n_x6 : Int32} {x6 : Int} (e_x6 : n_x6 = iI x6) : Si (fun x : Unit => x) (N12_writeChanges_178 n_k6 n_k15 n_x1 n_x3 n_x4 n_x5 n_x6) (I12_writeChanges_178 k6 k15 x1 x3 x4 x5 x6) := by
  subst e_x1
  subst e_x3
  subst e_x4
  subst e_x5
  subst e_x6
  unfold N12_writeChanges_178 I12_writeChanges_178
  exact (hk15 rfl rfl rfl rfl (eAdd rfl (eLit 1)))
def I12_writeChanges_45_st (k6 : Int → Int → Int → Int → IM Unit) (k15 : Int → Int → Int → Int → Int → IM Unit) (k45 : Int → Int → Int → Int → Int → Int → Int → IM Unit) (x1 : Int) (x3 : Int) (x4 : Int) (x5 : Int) (x6 : Int) (x7 : Int) (x8 : Int) : IM Unit :=
  ig (R32 x8) <|
  if 2 ≤ x8 then ((I12_writeChanges_178 k6 k15 x1 x3 x4 x5 x6)) else (if x8 = 0 then (ib (iaI 9 x7) fun v1 =>
  (I12_writeChanges_73 k6 k15 k45 x1 x3 x4 x5 x6 x7 x8 v1)) else (ib (iaI 10 x7) fun v2 =>
  (I12_writeChanges_73 k6 k15 k45 x1 x3 x4 x5 x6 x7 x8 v2)))
theorem v_N12_writeChanges_45_st {n_k6 : Int32 → Int32 → Int32 → Int32 → NM Unit} {k6 : Int → Int → Int → Int → IM Unit} (hk6 : ∀ {n0 : Int32} {z0 : Int} (_ : n0 = iI z0) {n1 : Int32} {z1 : Int} (_ : n1 = iI z1) {n2 : Int32} {z2 : Int} (_ : n2 = iI z2) {n3 : Int32} {z3 : Int} (_ : n3 = iI z3), Si (fun x : Unit => x) (n_k6 n0 n1 n2 n3) (k6 z0 z1 z2 z3)) {n_k15 : Int32 → Int32 → Int32 → Int32 → Int32 → NM Unit} {k15 : Int → Int → Int → Int → Int → IM Unit} (hk15 : ∀ {n0 : Int32} {z0 : Int} (_ : n0 = iI z0) {n1 : Int32} {z1 : Int} (_ : n1 = iI z1) {n2 : Int32} {z2 : Int} (_ : n2 = iI z2) {n3 : Int32} {z3 : Int} (_ : n3 = iI z3) {n4 : Int32} {z4 : Int} (_ : n4 = iI z4), Si (fun x : Unit => x) (n_k15 n0 n1 n2 n3 n4) (k15 z0 z1 z2 z3 z4)) {n_k45 : Int32 → Int32 → Int32 → Int32 → Int32 → Int32 → Int32 → NM Unit} {k45 : Int → Int → Int → Int → Int → Int → Int → IM Unit} (hk45 : ∀ {n0 : Int32} {z0 : Int} (_ : n0 = iI z0) {n1 : Int32} {z1 : Int} (_ : n1 = iI z1) {n2 : Int32} {z2 : Int} (_ : n2 = iI z2) {n3 : Int32} {z3 : Int} (_ : n3 = iI z3) {n4 : Int32} {z4 : Int} (_ : n4 = iI z4) {n5 : Int32} {z5 : Int} (_ : n5 = iI z5) {n6 : Int32} {z6 : Int} (_ : n6 = iI z6), Si (fun x : Unit => x) (n_k45 n0 n1 n2 n3 n4 n5 n6) (k45 z0 z1 z2 z3 z4 z5 z6)) {n_x1 : Int32} {x1 : Int} (e_x1 : n_x1 = iI x1) {n_x3 : Int32} {x3 : Int} (e_x3 : n_x3 = iI x3) {n_x4 : Int32} {x4 : Int} (e_x4 : n_x4 = iI x4) {n_x5 : Int32} {x5 : Int} (e_x5 : n_x5 = iI x5) {n_x6 : Int32} {x6 : Int} (e_x6 : n_x6 = iI x6) {n_x7 : Int32} {x7 : Int} (e_x7 : n_x7 = iI x7) {n_x8 : Int32} {x8 : Int} (e_x8 : n_x8 = iI x8) : Si (fun x : Unit => x) (N12_writeChanges_45_st n_k6 n_k15 n_k45 n_x1 n_x3 n_x4 n_x5 n_x6 n_x7 n_x8) (I12_writeChanges_45_st k6 k15 k45 x1 x3 x4 x5 x6 x7 x8) := by
  subst e_x1
  subst e_x3
  subst e_x4
  subst e_x5
  subst e_x6
  subst e_x7
  subst e_x8
  unfold N12_writeChanges_45_st I12_writeChanges_45_st
  refine si_ig fun h1 => ?_
  refine si_ite (cLe (eLit 2) rfl ⟨(by decide), h1⟩) ?_ ?_
  · exact (v_N12_writeChanges_178 hk6 hk15 rfl rfl rfl rfl rfl)
  · refine si_ite (cEq rfl (eLit 0) ⟨h1, (by decide)⟩) ?_ ?_
    · refine si_b (si_aI rfl) fun v1 => ?_
      exact (v_N12_writeChanges_73 hk6 hk15 hk45 rfl rfl rfl rfl rfl rfl rfl rfl)
    · refine si_b (si_aI rfl) fun v2 => ?_
      exact (v_N12_writeChanges_73 hk6 hk15 hk45 rfl rfl rfl rfl rfl rfl rfl rfl)
def I12_writeChanges_45 (k6 : Int → Int → Int → Int → IM Unit) (k15 : Int → Int → Int → Int → Int → IM Unit) : Nat → Int → Int → Int → Int → Int → Int → Int → IM Unit
  | 0 => fun _ _ _ _ _ _ _ => nof
  | n + 1 => fun x1 x3 x4 x5 x6 x7 x8 => I12_writeChanges_45_st k6 k15 (I12_writeChanges_45 k6 k15 n) x1 x3 x4 x5 x6 x7 x8
theorem v_N12_writeChanges_45 {n_k6 : Int32 → Int32 → Int32 → Int32 → NM Unit} {k6 : Int → Int → Int → Int → IM Unit} (hk6 : ∀ {n0 : Int32} {z0 : Int} (_ : n0 = iI z0) {n1 : Int32} {z1 : Int} (_ : n1 = iI z1) {n2 : Int32} {z2 : Int} (_ : n2 = iI z2) {n3 : Int32} {z3 : Int} (_ : n3 = iI z3), Si (fun x : Unit => x) (n_k6 n0 n1 n2 n3) (k6 z0 z1 z2 z3)) {n_k15 : Int32 → Int32 → Int32 → Int32 → Int32 → NM Unit} {k15 : Int → Int → Int → Int → Int → IM Unit} (hk15 : ∀ {n0 : Int32} {z0 : Int} (_ : n0 = iI z0) {n1 : Int32} {z1 : Int} (_ : n1 = iI z1) {n2 : Int32} {z2 : Int} (_ : n2 = iI z2) {n3 : Int32} {z3 : Int} (_ : n3 = iI z3) {n4 : Int32} {z4 : Int} (_ : n4 = iI z4), Si (fun x : Unit => x) (n_k15 n0 n1 n2 n3 n4) (k15 z0 z1 z2 z3 z4)) : ∀ (n : Nat) {n_x1 : Int32} {x1 : Int} (e_x1 : n_x1 = iI x1) {n_x3 : Int32} {x3 : Int} (e_x3 : n_x3 = iI x3) {n_x4 : Int32} {x4 : Int} (e_x4 : n_x4 = iI x4) {n_x5 : Int32} {x5 : Int} (e_x5 : n_x5 = iI x5) {n_x6 : Int32} {x6 : Int} (e_x6 : n_x6 = iI x6) {n_x7 : Int32} {x7 : Int} (e_x7 : n_x7 = iI x7) {n_x8 : Int32} {x8 : Int} (e_x8 : n_x8 = iI x8), Si (fun x : Unit => x) (N12_writeChanges_45 n_k6 n_k15 n n_x1 n_x3 n_x4 n_x5 n_x6 n_x7 n_x8) (I12_writeChanges_45 k6 k15 n x1 x3 x4 x5 x6 x7 x8) := by
  intro n
  induction n with
  | zero => intro n_x1 x1 e_x1 n_x3 x3 e_x3 n_x4 x4 e_x4 n_x5 x5 e_x5 n_x6 x6 e_x6 n_x7 x7 e_x7 n_x8 x8 e_x8; exact si_nf
  | succ n ih => intro n_x1 x1 e_x1 n_x3 x3 e_x3 n_x4 x4 e_x4 n_x5 x5 e_x5 n_x6 x6 e_x6 n_x7 x7 e_x7 n_x8 x8 e_x8; exact v_N12_writeChanges_45_st hk6 hk15 (ih) e_x1 e_x3 e_x4 e_x5 e_x6 e_x7 e_x8
def I12_writeChanges_184 (k6 : Int → Int → Int → Int → IM Unit) (x1 : Int) (x3 : Int) (x4 : Int) (x5 : Int) : IM Unit :=
  (k6 x1 x3 x4 (x5 + 1))
theorem v_N12_writeChanges_184 {n_k6 : Int32 → Int32 → Int32 → Int32 → NM Unit} {k6 : Int → Int → Int → Int → IM Unit} (hk6 : ∀ {n0 : Int32} {z0 : Int} (_ : n0 = iI z0) {n1 : Int32} {z1 : Int} (_ : n1 = iI z1) {n2 : Int32} {z2 : Int} (_ : n2 = iI z2) {n3 : Int32} {z3 : Int} (_ : n3 = iI z3), Si (fun x : Unit => x) (n_k6 n0 n1 n2 n3) (k6 z0 z1 z2 z3)) {n_x1 : Int32} {x1 : Int} (e_x1 : n_x1 = iI x1) {n_x3 : Int32} {x3 : Int} (e_x3 : n_x3 = iI x3) {n_x4 : Int32} {x4 : Int} (e_x4 : n_x4 = iI x4) {n_x5 : Int32} {x5 : Int} (e_x5 : n_x5 = iI x5) : Si (fun x : Unit => x) (N12_writeChanges_184 n_k6 n_x1 n_x3 n_x4 n_x5) (I12_writeChanges_184 k6 x1 x3 x4 x5) := by
  subst e_x1
  subst e_x3
  subst e_x4
  subst e_x5
  unfold N12_writeChanges_184 I12_writeChanges_184
  exact (hk6 rfl rfl rfl (eAdd rfl (eLit 1)))
def I12_writeChanges_15_st (k6 : Int → Int → Int → Int → IM Unit) (k15 : Int → Int → Int → Int → Int → IM Unit) (x1 : Int) (x3 : Int) (x4 : Int) (x5 : Int) (x6 : Int) : IM Unit :=
  ib (iaI 8 ((x1 * 71) + x5)) fun v1 =>
  ig (R32 v1) <|
  ig (R32 x6) <|
  if v1 < x6 then ((I12_writeChanges_184 k6 x1 x3 x4 x5)) else (ib (I12_spot x1 x5 x6) fun v2 =>
  (I12_writeChanges_45 k6 k15 LFU x1 x3 x4 x5 x6 v2 0))
theorem v_N12_writeChanges_15_st {n_k6 : Int32 → Int32 → Int32 → Int32 → NM Unit} {k6 : Int → Int → Int → Int → IM Unit} (hk6 : ∀ {n0 : Int32} {z0 : Int} (_ : n0 = iI z0) {n1 : Int32} {z1 : Int} (_ : n1 = iI z1) {n2 : Int32} {z2 : Int} (_ : n2 = iI z2) {n3 : Int32} {z3 : Int} (_ : n3 = iI z3), Si (fun x : Unit => x) (n_k6 n0 n1 n2 n3) (k6 z0 z1 z2 z3)) {n_k15 : Int32 → Int32 → Int32 → Int32 → Int32 → NM Unit} {k15 : Int → Int → Int → Int → Int → IM Unit} (hk15 : ∀ {n0 : Int32} {z0 : Int} (_ : n0 = iI z0) {n1 : Int32} {z1 : Int} (_ : n1 = iI z1) {n2 : Int32} {z2 : Int} (_ : n2 = iI z2) {n3 : Int32} {z3 : Int} (_ : n3 = iI z3) {n4 : Int32} {z4 : Int} (_ : n4 = iI z4), Si (fun x : Unit => x) (n_k15 n0 n1 n2 n3 n4) (k15 z0 z1 z2 z3 z4)) {n_x1 : Int32} {x1 : Int} (e_x1 : n_x1 = iI x1) {n_x3 : Int32} {x3 : Int} (e_x3 : n_x3 = iI x3) {n_x4 : Int32} {x4 : Int} (e_x4 : n_x4 = iI x4) {n_x5 : Int32} {x5 : Int} (e_x5 : n_x5 = iI x5) {n_x6 : Int32} {x6 : Int} (e_x6 : n_x6 = iI x6) : Si (fun x : Unit => x) (N12_writeChanges_15_st n_k6 n_k15 n_x1 n_x3 n_x4 n_x5 n_x6) (I12_writeChanges_15_st k6 k15 x1 x3 x4 x5 x6) := by
  subst e_x1
  subst e_x3
  subst e_x4
  subst e_x5
  subst e_x6
  unfold N12_writeChanges_15_st I12_writeChanges_15_st
  refine si_b (si_aI (eAdd (eMul rfl (eLit 71)) rfl)) fun v1 => ?_
  refine si_ig fun h1 => ?_
  refine si_ig fun h2 => ?_
  refine si_ite (cLt rfl rfl ⟨h1, h2⟩) ?_ ?_
  · exact (v_N12_writeChanges_184 hk6 rfl rfl rfl rfl)
  · refine si_b (v_N12_spot rfl rfl rfl) fun v2 => ?_
    exact (v_N12_writeChanges_45 hk6 hk15 LFU rfl rfl rfl rfl rfl rfl (eLit 0))
def I12_writeChanges_15 (k6 : Int → Int → Int → Int → IM Unit) : Nat → Int → Int → Int → Int → Int → IM Unit
  | 0 => fun _ _ _ _ _ => nof
  | n + 1 => fun x1 x3 x4 x5 x6 => I12_writeChanges_15_st k6 (I12_writeChanges_15 k6 n) x1 x3 x4 x5 x6
theorem v_N12_writeChanges_15 {n_k6 : Int32 → Int32 → Int32 → Int32 → NM Unit} {k6 : Int → Int → Int → Int → IM Unit} (hk6 : ∀ {n0 : Int32} {z0 : Int} (_ : n0 = iI z0) {n1 : Int32} {z1 : Int} (_ : n1 = iI z1) {n2 : Int32} {z2 : Int} (_ : n2 = iI z2) {n3 : Int32} {z3 : Int} (_ : n3 = iI z3), Si (fun x : Unit => x) (n_k6 n0 n1 n2 n3) (k6 z0 z1 z2 z3)) : ∀ (n : Nat) {n_x1 : Int32} {x1 : Int} (e_x1 : n_x1 = iI x1) {n_x3 : Int32} {x3 : Int} (e_x3 : n_x3 = iI x3) {n_x4 : Int32} {x4 : Int} (e_x4 : n_x4 = iI x4) {n_x5 : Int32} {x5 : Int} (e_x5 : n_x5 = iI x5) {n_x6 : Int32} {x6 : Int} (e_x6 : n_x6 = iI x6), Si (fun x : Unit => x) (N12_writeChanges_15 n_k6 n n_x1 n_x3 n_x4 n_x5 n_x6) (I12_writeChanges_15 k6 n x1 x3 x4 x5 x6) := by
  intro n
  induction n with
  | zero => intro n_x1 x1 e_x1 n_x3 x3 e_x3 n_x4 x4 e_x4 n_x5 x5 e_x5 n_x6 x6 e_x6; exact si_nf
  | succ n ih => intro n_x1 x1 e_x1 n_x3 x3 e_x3 n_x4 x4 e_x4 n_x5 x5 e_x5 n_x6 x6 e_x6; exact v_N12_writeChanges_15_st hk6 (ih) e_x1 e_x3 e_x4 e_x5 e_x6
def I12_writeChanges_190 (x4 : Int) : IM Unit :=
  ig (R32 x4) <|
  if x4 = 0 then (ir ()) else (ib (I12_write 41) fun _ =>
  ir ())
theorem v_N12_writeChanges_190  {n_x4 : Int32} {x4 : Int} (e_x4 : n_x4 = iI x4) : Si (fun x : Unit => x) (N12_writeChanges_190  n_x4) (I12_writeChanges_190  x4) := by
  subst e_x4
  unfold N12_writeChanges_190 I12_writeChanges_190
  refine si_ig fun h1 => ?_
  refine si_ite (cEq rfl (eLit 0) ⟨h1, (by decide)⟩) ?_ ?_
  · exact si_rn
  · refine si_b (v_N12_write (eLit 41)) fun _ => ?_
    exact si_rn
def I12_writeChanges_6_st (k6 : Int → Int → Int → Int → IM Unit) (x1 : Int) (x3 : Int) (x4 : Int) (x5 : Int) : IM Unit :=
  ig (R32 x3) <|
  ig (R32 x5) <|
  if x3 < x5 then ((I12_writeChanges_190 x4)) else ((I12_writeChanges_15 k6 LFU x1 x3 x4 x5 1))
theorem v_N12_writeChanges_6_st {n_k6 : Int32 → Int32 → Int32 → Int32 → NM Unit} {k6 : Int → Int → Int → Int → IM Unit} (hk6 : ∀ {n0 : Int32} {z0 : Int} (_ : n0 = iI z0) {n1 : Int32} {z1 : Int} (_ : n1 = iI z1) {n2 : Int32} {z2 : Int} (_ : n2 = iI z2) {n3 : Int32} {z3 : Int} (_ : n3 = iI z3), Si (fun x : Unit => x) (n_k6 n0 n1 n2 n3) (k6 z0 z1 z2 z3)) {n_x1 : Int32} {x1 : Int} (e_x1 : n_x1 = iI x1) {n_x3 : Int32} {x3 : Int} (e_x3 : n_x3 = iI x3) {n_x4 : Int32} {x4 : Int} (e_x4 : n_x4 = iI x4) {n_x5 : Int32} {x5 : Int} (e_x5 : n_x5 = iI x5) : Si (fun x : Unit => x) (N12_writeChanges_6_st n_k6 n_x1 n_x3 n_x4 n_x5) (I12_writeChanges_6_st k6 x1 x3 x4 x5) := by
  subst e_x1
  subst e_x3
  subst e_x4
  subst e_x5
  unfold N12_writeChanges_6_st I12_writeChanges_6_st
  refine si_ig fun h1 => ?_
  refine si_ig fun h2 => ?_
  refine si_ite (cLt rfl rfl ⟨h1, h2⟩) ?_ ?_
  · exact (v_N12_writeChanges_190 rfl)
  · exact (v_N12_writeChanges_15 hk6 LFU rfl rfl rfl rfl (eLit 1))
def I12_writeChanges_6 : Nat → Int → Int → Int → Int → IM Unit
  | 0 => fun _ _ _ _ => nof
  | n + 1 => fun x1 x3 x4 x5 => I12_writeChanges_6_st  (I12_writeChanges_6  n) x1 x3 x4 x5
theorem v_N12_writeChanges_6  : ∀ (n : Nat) {n_x1 : Int32} {x1 : Int} (e_x1 : n_x1 = iI x1) {n_x3 : Int32} {x3 : Int} (e_x3 : n_x3 = iI x3) {n_x4 : Int32} {x4 : Int} (e_x4 : n_x4 = iI x4) {n_x5 : Int32} {x5 : Int} (e_x5 : n_x5 = iI x5), Si (fun x : Unit => x) (N12_writeChanges_6  n n_x1 n_x3 n_x4 n_x5) (I12_writeChanges_6  n x1 x3 x4 x5) := by
  intro n
  induction n with
  | zero => intro n_x1 x1 e_x1 n_x3 x3 e_x3 n_x4 x4 e_x4 n_x5 x5 e_x5; exact si_nf
  | succ n ih => intro n_x1 x1 e_x1 n_x3 x3 e_x3 n_x4 x4 e_x4 n_x5 x5 e_x5; exact v_N12_writeChanges_6_st  (ih) e_x1 e_x3 e_x4 e_x5
def I12_writeChanges (a1 : Int) (a2 : Int) (a3 : Int) : IM Unit :=
  (I12_writeChanges_6 LFU a1 a3 0 a2)
theorem v_N12_writeChanges  {n_a1 : Int32} {a1 : Int} (e_a1 : n_a1 = iI a1) {n_a2 : Int32} {a2 : Int} (e_a2 : n_a2 = iI a2) {n_a3 : Int32} {a3 : Int} (e_a3 : n_a3 = iI a3) : Si (fun x : Unit => x) (N12_writeChanges  n_a1 n_a2 n_a3) (I12_writeChanges  a1 a2 a3) := by
  subst e_a1
  subst e_a2
  subst e_a3
  unfold N12_writeChanges I12_writeChanges
  exact (v_N12_writeChanges_6 LFU rfl rfl (eLit 0) rfl)
def I12_writeBook_169 (k7 : Int → Int → IM Unit) (x1 : Int) (x2 : Int) (x3 : Int) (x4 : Int) : IM Unit :=
  ib (iaI 8 (x3 + x2)) fun v1 =>
  ib (I12_writeNumber v1) fun _ =>
  ib (I12_writeChanges x1 x2 x4) fun _ =>
  (k7 x1 (x4 + 1))
theorem v_N12_writeBook_169 {n_k7 : Int32 → Int32 → NM Unit} {k7 : Int → Int → IM Unit} (hk7 : ∀ {n0 : Int32} {z0 : Int} (_ : n0 = iI z0) {n1 : Int32} {z1 : Int} (_ : n1 = iI z1), Si (fun x : Unit => x) (n_k7 n0 n1) (k7 z0 z1)) {n_x1 : Int32} {x1 : Int} (e_x1 : n_x1 = iI x1) {n_x2 : Int32} {x2 : Int} (e_x2 : n_x2 = iI x2) {n_x3 : Int32} {x3 : Int} (e_x3 : n_x3 = iI x3) {n_x4 : Int32} {x4 : Int} (e_x4 : n_x4 = iI x4) : Si (fun x : Unit => x) (N12_writeBook_169 n_k7 n_x1 n_x2 n_x3 n_x4) (I12_writeBook_169 k7 x1 x2 x3 x4) := by
  subst e_x1
  subst e_x2
  subst e_x3
  subst e_x4
  unfold N12_writeBook_169 I12_writeBook_169
  refine si_b (si_aI (eAdd rfl rfl)) fun v1 => ?_
  refine si_b (v_N12_writeNumber rfl) fun _ => ?_
  refine si_b (v_N12_writeChanges rfl rfl rfl) fun _ => ?_
  exact (hk7 rfl (eAdd rfl (eLit 1)))
def I12_writeBook_132 (k7 : Int → Int → IM Unit) (x1 : Int) (x2 : Int) (x3 : Int) (x4 : Int) : IM Unit :=
  ib (iaI 7 (x3 + x2)) fun v1 =>
  ib (I12_writeSign v1) fun _ =>
  ig (R32 x4) <|
  ig (R32 x2) <|
  if x4 ≤ x2 then ((I12_writeBook_169 k7 x1 x2 x3 x4)) else (ib (I12_write 45) fun _ =>
  ib (iaI 7 (x3 + x4)) fun v2 =>
  ib (I12_writeSign v2) fun _ =>
  (I12_writeBook_169 k7 x1 x2 x3 x4))
theorem v_N12_writeBook_132 {n_k7 : Int32 → Int32 → NM Unit} {k7 : Int → Int → IM Unit} (hk7 : ∀ {n0 : Int32} {z0 : Int} (_ : n0 = iI z0) {n1 : Int32} {z1 : Int} (_ : n1 = iI z1), Si (fun x : Unit => x) (n_k7 n0 n1) (k7 z0 z1)) {n_x1 : Int32} {x1 : Int} (e_x1 : n_x1 = iI x1) {n_x2 : Int32} {x2 : Int} (e_x2 : n_x2 = iI x2) {n_x3 : Int32} {x3 : Int} (e_x3 : n_x3 = iI x3) {n_x4 : Int32} {x4 : Int} (e_x4 : n_x4 = iI x4) : Si (fun x : Unit => x) (N12_writeBook_132 n_k7 n_x1 n_x2 n_x3 n_x4) (I12_writeBook_132 k7 x1 x2 x3 x4) := by
  subst e_x1
  subst e_x2
  subst e_x3
  subst e_x4
  unfold N12_writeBook_132 I12_writeBook_132
  refine si_b (si_aI (eAdd rfl rfl)) fun v1 => ?_
  refine si_b (v_N12_writeSign rfl) fun _ => ?_
  refine si_ig fun h1 => ?_
  refine si_ig fun h2 => ?_
  refine si_ite (cLe rfl rfl ⟨h1, h2⟩) ?_ ?_
  · exact (v_N12_writeBook_169 hk7 rfl rfl rfl rfl)
  · refine si_b (v_N12_write (eLit 45)) fun _ => ?_
    refine si_b (si_aI (eAdd rfl rfl)) fun v2 => ?_
    refine si_b (v_N12_writeSign rfl) fun _ => ?_
    exact (v_N12_writeBook_169 hk7 rfl rfl rfl rfl)
def I12_writeBook_122 (k7 : Int → Int → IM Unit) (x1 : Int) (x2 : Int) (x3 : Int) (x4 : Int) : IM Unit :=
  ig (R32 x2) <|
  if x2 ≤ 0 then ((I12_writeBook_132 k7 x1 x2 x3 x4)) else (ib (I12_write 32) fun _ =>
  (I12_writeBook_132 k7 x1 x2 x3 x4))
theorem v_N12_writeBook_122 {n_k7 : Int32 → Int32 → NM Unit} {k7 : Int → Int → IM Unit} (hk7 : ∀ {n0 : Int32} {z0 : Int} (_ : n0 = iI z0) {n1 : Int32} {z1 : Int} (_ : n1 = iI z1), Si (fun x : Unit => x) (n_k7 n0 n1) (k7 z0 z1)) {n_x1 : Int32} {x1 : Int} (e_x1 : n_x1 = iI x1) {n_x2 : Int32} {x2 : Int} (e_x2 : n_x2 = iI x2) {n_x3 : Int32} {x3 : Int} (e_x3 : n_x3 = iI x3) {n_x4 : Int32} {x4 : Int} (e_x4 : n_x4 = iI x4) : Si (fun x : Unit => x) (N12_writeBook_122 n_k7 n_x1 n_x2 n_x3 n_x4) (I12_writeBook_122 k7 x1 x2 x3 x4) := by
  subst e_x1
  subst e_x2
  subst e_x3
  subst e_x4
  unfold N12_writeBook_122 I12_writeBook_122
  refine si_ig fun h1 => ?_
  refine si_ite (cLe rfl (eLit 0) ⟨h1, (by decide)⟩) ?_ ?_
  · exact (v_N12_writeBook_132 hk7 rfl rfl rfl rfl)
  · refine si_b (v_N12_write (eLit 32)) fun _ => ?_
    exact (v_N12_writeBook_132 hk7 rfl rfl rfl rfl)
def I12_writeBook_25_st (k7 : Int → Int → IM Unit) (k25 : Int → Int → Int → Int → IM Unit) (x1 : Int) (x2 : Int) (x3 : Int) (x4 : Int) : IM Unit :=
  ib (iaI 6 x1) fun v1 =>
  ig (R32 v1) <|
  ig (R32 (x4 + 1)) <|
  if v1 ≤ (x4 + 1) then ((I12_writeBook_122 k7 x1 x2 x3 x4)) else (ib (iaI 7 (x3 + x2)) fun v2 =>
  ib (I12_isLetters v2) fun v3 =>
  ig (R32 v3) <|
  if v3 = 0 then ((I12_writeBook_122 k7 x1 x2 x3 x4)) else (ib (iaI 7 ((x3 + x4) + 1)) fun v4 =>
  ib (I12_isLetters v4) fun v5 =>
  ig (R32 v5) <|
  if v5 = 0 then ((I12_writeBook_122 k7 x1 x2 x3 x4)) else (ib (iaI 7 ((x3 + x4) + 1)) fun v6 =>
  ib (iaI 7 (x3 + x4)) fun v7 =>
  ig (R32 v6) <|
  ig (R32 (v7 + 1)) <|
  if v6 = (v7 + 1) then (ib (iaI 8 ((x3 + x4) + 1)) fun v8 =>
  ib (iaI 8 (x3 + x2)) fun v9 =>
  ig (R32 v8) <|
  ig (R32 v9) <|
  if v8 = v9 then ((k25 x1 x2 x3 (x4 + 1))) else ((I12_writeBook_122 k7 x1 x2 x3 x4))) else ((I12_writeBook_122 k7 x1 x2 x3 x4)))))
theorem v_N12_writeBook_25_st {n_k7 : Int32 → Int32 → NM Unit} {k7 : Int → Int → IM Unit} (hk7 : ∀ {n0 : Int32} {z0 : Int} (_ : n0 = iI z0) {n1 : Int32} {z1 : Int} (_ : n1 = iI z1), Si (fun x : Unit => x) (n_k7 n0 n1) (k7 z0 z1)) {n_k25 : Int32 → Int32 → Int32 → Int32 → NM Unit} {k25 : Int → Int → Int → Int → IM Unit} (hk25 : ∀ {n0 : Int32} {z0 : Int} (_ : n0 = iI z0) {n1 : Int32} {z1 : Int} (_ : n1 = iI z1) {n2 : Int32} {z2 : Int} (_ : n2 = iI z2) {n3 : Int32} {z3 : Int} (_ : n3 = iI z3), Si (fun x : Unit => x) (n_k25 n0 n1 n2 n3) (k25 z0 z1 z2 z3)) {n_x1 : Int32} {x1 : Int} (e_x1 : n_x1 = iI x1) {n_x2 : Int32} {x2 : Int} (e_x2 : n_x2 = iI x2) {n_x3 : Int32} {x3 : Int} (e_x3 : n_x3 = iI x3) {n_x4 : Int32} {x4 : Int} (e_x4 : n_x4 = iI x4) : Si (fun x : Unit => x) (N12_writeBook_25_st n_k7 n_k25 n_x1 n_x2 n_x3 n_x4) (I12_writeBook_25_st k7 k25 x1 x2 x3 x4) := by
  subst e_x1
  subst e_x2
  subst e_x3
  subst e_x4
  unfold N12_writeBook_25_st I12_writeBook_25_st
  refine si_b (si_aI rfl) fun v1 => ?_
  refine si_ig fun h1 => ?_
  refine si_ig fun h2 => ?_
  refine si_ite (cLe rfl (eAdd rfl (eLit 1)) ⟨h1, h2⟩) ?_ ?_
  · exact (v_N12_writeBook_122 hk7 rfl rfl rfl rfl)
  · refine si_b (si_aI (eAdd rfl rfl)) fun v2 => ?_
    refine si_b (v_N12_isLetters rfl) fun v3 => ?_
    refine si_ig fun h3 => ?_
    refine si_ite (cEq rfl (eLit 0) ⟨h3, (by decide)⟩) ?_ ?_
    · exact (v_N12_writeBook_122 hk7 rfl rfl rfl rfl)
    · refine si_b (si_aI (eAdd (eAdd rfl rfl) (eLit 1))) fun v4 => ?_
      refine si_b (v_N12_isLetters rfl) fun v5 => ?_
      refine si_ig fun h4 => ?_
      refine si_ite (cEq rfl (eLit 0) ⟨h4, (by decide)⟩) ?_ ?_
      · exact (v_N12_writeBook_122 hk7 rfl rfl rfl rfl)
      · refine si_b (si_aI (eAdd (eAdd rfl rfl) (eLit 1))) fun v6 => ?_
        refine si_b (si_aI (eAdd rfl rfl)) fun v7 => ?_
        refine si_ig fun h5 => ?_
        refine si_ig fun h6 => ?_
        refine si_ite (cEq rfl (eAdd rfl (eLit 1)) ⟨h5, h6⟩) ?_ ?_
        · refine si_b (si_aI (eAdd (eAdd rfl rfl) (eLit 1))) fun v8 => ?_
          refine si_b (si_aI (eAdd rfl rfl)) fun v9 => ?_
          refine si_ig fun h7 => ?_
          refine si_ig fun h8 => ?_
          refine si_ite (cEq rfl rfl ⟨h7, h8⟩) ?_ ?_
          · exact (hk25 rfl rfl rfl (eAdd rfl (eLit 1)))
          · exact (v_N12_writeBook_122 hk7 rfl rfl rfl rfl)
        · exact (v_N12_writeBook_122 hk7 rfl rfl rfl rfl)
def I12_writeBook_25 (k7 : Int → Int → IM Unit) : Nat → Int → Int → Int → Int → IM Unit
  | 0 => fun _ _ _ _ => nof
  | n + 1 => fun x1 x2 x3 x4 => I12_writeBook_25_st k7 (I12_writeBook_25 k7 n) x1 x2 x3 x4
theorem v_N12_writeBook_25 {n_k7 : Int32 → Int32 → NM Unit} {k7 : Int → Int → IM Unit} (hk7 : ∀ {n0 : Int32} {z0 : Int} (_ : n0 = iI z0) {n1 : Int32} {z1 : Int} (_ : n1 = iI z1), Si (fun x : Unit => x) (n_k7 n0 n1) (k7 z0 z1)) : ∀ (n : Nat) {n_x1 : Int32} {x1 : Int} (e_x1 : n_x1 = iI x1) {n_x2 : Int32} {x2 : Int} (e_x2 : n_x2 = iI x2) {n_x3 : Int32} {x3 : Int} (e_x3 : n_x3 = iI x3) {n_x4 : Int32} {x4 : Int} (e_x4 : n_x4 = iI x4), Si (fun x : Unit => x) (N12_writeBook_25 n_k7 n n_x1 n_x2 n_x3 n_x4) (I12_writeBook_25 k7 n x1 x2 x3 x4) := by
  intro n
  induction n with
  | zero => intro n_x1 x1 e_x1 n_x2 x2 e_x2 n_x3 x3 e_x3 n_x4 x4 e_x4; exact si_nf
  | succ n ih => intro n_x1 x1 e_x1 n_x2 x2 e_x2 n_x3 x3 e_x3 n_x4 x4 e_x4; exact v_N12_writeBook_25_st hk7 (ih) e_x1 e_x2 e_x3 e_x4
def I12_writeBook_7_st (k7 : Int → Int → IM Unit) (x1 : Int) (x2 : Int) : IM Unit :=
  ib (iaI 6 x1) fun v1 =>
  ig (R32 v1) <|
  ig (R32 x2) <|
  if v1 ≤ x2 then (ir ()) else ((I12_writeBook_25 k7 LFU x1 x2 (x1 * 71) x2))
theorem v_N12_writeBook_7_st {n_k7 : Int32 → Int32 → NM Unit} {k7 : Int → Int → IM Unit} (hk7 : ∀ {n0 : Int32} {z0 : Int} (_ : n0 = iI z0) {n1 : Int32} {z1 : Int} (_ : n1 = iI z1), Si (fun x : Unit => x) (n_k7 n0 n1) (k7 z0 z1)) {n_x1 : Int32} {x1 : Int} (e_x1 : n_x1 = iI x1) {n_x2 : Int32} {x2 : Int} (e_x2 : n_x2 = iI x2) : Si (fun x : Unit => x) (N12_writeBook_7_st n_k7 n_x1 n_x2) (I12_writeBook_7_st k7 x1 x2) := by
  subst e_x1
  subst e_x2
  unfold N12_writeBook_7_st I12_writeBook_7_st
  refine si_b (si_aI rfl) fun v1 => ?_
  refine si_ig fun h1 => ?_
  refine si_ig fun h2 => ?_
  refine si_ite (cLe rfl rfl ⟨h1, h2⟩) ?_ ?_
  · exact si_rn
  · exact (v_N12_writeBook_25 hk7 LFU rfl rfl (eMul rfl (eLit 71)) rfl)
def I12_writeBook_7 : Nat → Int → Int → IM Unit
  | 0 => fun _ _ => nof
  | n + 1 => fun x1 x2 => I12_writeBook_7_st  (I12_writeBook_7  n) x1 x2
theorem v_N12_writeBook_7  : ∀ (n : Nat) {n_x1 : Int32} {x1 : Int} (e_x1 : n_x1 = iI x1) {n_x2 : Int32} {x2 : Int} (e_x2 : n_x2 = iI x2), Si (fun x : Unit => x) (N12_writeBook_7  n n_x1 n_x2) (I12_writeBook_7  n x1 x2) := by
  intro n
  induction n with
  | zero => intro n_x1 x1 e_x1 n_x2 x2 e_x2; exact si_nf
  | succ n ih => intro n_x1 x1 e_x1 n_x2 x2 e_x2; exact v_N12_writeBook_7_st  (ih) e_x1 e_x2
def I12_writeBook (a1 : Int) : IM Unit :=
  ib (ipI 37 0) fun _ =>
  (I12_writeBook_7 LFU a1 0)
theorem v_N12_writeBook  {n_a1 : Int32} {a1 : Int} (e_a1 : n_a1 = iI a1) : Si (fun x : Unit => x) (N12_writeBook  n_a1) (I12_writeBook  a1) := by
  subst e_a1
  unfold N12_writeBook I12_writeBook
  refine si_b (si_pI (eLit 0)) fun _ => ?_
  exact (v_N12_writeBook_7 LFU rfl (eLit 0))
def I12_writeName (a1 : Int) (a2 : Int) : IM Unit :=
  ib (iaI 12 ((a1 * 400) + a2)) fun v1 =>
  ib (iaI 7 ((a1 * 71) + v1)) fun v2 =>
  ib (I12_writeSign v2) fun _ =>
  ib (iaI 13 ((a1 * 400) + a2)) fun v3 =>
  ib (I12_writeNumber v3) fun _ =>
  ib (iaI 14 ((a1 * 400) + a2)) fun v4 =>
  ig (R32 v4) <|
  if v4 = 0 then (ir ()) else (ib (I12_write 43) fun _ =>
  ib (iaI 14 ((a1 * 400) + a2)) fun v5 =>
  ib (I12_writeNumber v5) fun _ =>
  ir ())
theorem v_N12_writeName  {n_a1 : Int32} {a1 : Int} (e_a1 : n_a1 = iI a1) {n_a2 : Int32} {a2 : Int} (e_a2 : n_a2 = iI a2) : Si (fun x : Unit => x) (N12_writeName  n_a1 n_a2) (I12_writeName  a1 a2) := by
  subst e_a1
  subst e_a2
  unfold N12_writeName I12_writeName
  refine si_b (si_aI (eAdd (eMul rfl (eLit 400)) rfl)) fun v1 => ?_
  refine si_b (si_aI (eAdd (eMul rfl (eLit 71)) rfl)) fun v2 => ?_
  refine si_b (v_N12_writeSign rfl) fun _ => ?_
  refine si_b (si_aI (eAdd (eMul rfl (eLit 400)) rfl)) fun v3 => ?_
  refine si_b (v_N12_writeNumber rfl) fun _ => ?_
  refine si_b (si_aI (eAdd (eMul rfl (eLit 400)) rfl)) fun v4 => ?_
  refine si_ig fun h1 => ?_
  refine si_ite (cEq rfl (eLit 0) ⟨h1, (by decide)⟩) ?_ ?_
  · exact si_rn
  · refine si_b (v_N12_write (eLit 43)) fun _ => ?_
    refine si_b (si_aI (eAdd (eMul rfl (eLit 400)) rfl)) fun v5 => ?_
    refine si_b (v_N12_writeNumber rfl) fun _ => ?_
    exact si_rn
def I12_tell (a1 : Int) : IM Int :=
  ib (igI 37) fun v1 =>
  ib (I12_isIn a1 0 (v1 - 1)) fun v2 =>
  ig (R32 v2) <|
  if v2 = 0 then (ib (I12_no 1) fun v3 =>
  ir v3) else (ib (iaI 36 a1) fun v4 =>
  ib (I12_fine v4) fun v5 =>
  ir v5)
theorem v_N12_tell  {n_a1 : Int32} {a1 : Int} (e_a1 : n_a1 = iI a1) : Si iI (N12_tell  n_a1) (I12_tell  a1) := by
  subst e_a1
  unfold N12_tell I12_tell
  refine si_b si_gI fun v1 => ?_
  refine si_b (v_N12_isIn rfl (eLit 0) (eSub rfl (eLit 1))) fun v2 => ?_
  refine si_ig fun h1 => ?_
  refine si_ite (cEq rfl (eLit 0) ⟨h1, (by decide)⟩) ?_ ?_
  · refine si_b (v_N12_no (eLit 1)) fun v3 => ?_
    exact si_re rfl
  · refine si_b (si_aI rfl) fun v4 => ?_
    refine si_b (v_N12_fine rfl) fun v5 => ?_
    exact si_re rfl
def I12_isFormat (a0 : Int) : IM Int :=
  ig (R32 a0) <|
  if a0 = 2 then (ir 1) else (if a0 = 4 then (ir 1) else (if a0 = 8 then (ir 1) else (ir 0)))
theorem v_N12_isFormat  {n_a0 : Int32} {a0 : Int} (e_a0 : n_a0 = iI a0) : Si iI (N12_isFormat  n_a0) (I12_isFormat  a0) := by
  subst e_a0
  unfold N12_isFormat I12_isFormat
  refine si_ig fun h1 => ?_
  refine si_ite (cEq rfl (eLit 2) ⟨h1, (by decide)⟩) ?_ ?_
  · exact si_re (eLit 1)
  · refine si_ite (cEq rfl (eLit 4) ⟨h1, (by decide)⟩) ?_ ?_
    · exact si_re (eLit 1)
    · refine si_ite (cEq rfl (eLit 8) ⟨h1, (by decide)⟩) ?_ ?_
      · exact si_re (eLit 1)
      · exact si_re (eLit 0)
def I12_sheetOf (a0 : Int) (a1 : Int) (a2 : Int) : IM Int :=
  ib (idI a2 2) fun v2 =>
  ig (R32 (a0 - a1)) <|
  ig (R32 (a1 - 1)) <|
  ib (idI (if (a0 - a1) < (a1 - 1) then (a0 - a1) else (a1 - 1)) v2) fun v3 =>
  ir v3
theorem v_N12_sheetOf  {n_a0 : Int32} {a0 : Int} (e_a0 : n_a0 = iI a0) {n_a1 : Int32} {a1 : Int} (e_a1 : n_a1 = iI a1) {n_a2 : Int32} {a2 : Int} (e_a2 : n_a2 = iI a2) : Si iI (N12_sheetOf  n_a0 n_a1 n_a2) (I12_sheetOf  a0 a1 a2) := by
  subst e_a0
  subst e_a1
  subst e_a2
  unfold N12_sheetOf I12_sheetOf
  refine si_b (si_dI rfl (eLit 2)) fun v2 => ?_
  refine si_ig fun h1 => ?_
  refine si_ig fun h2 => ?_
  refine si_b (si_dI (eIte (cLt (eSub rfl rfl) (eSub rfl (eLit 1)) ⟨h1, h2⟩) (eSub rfl rfl) (eSub rfl (eLit 1))) rfl) fun v3 => ?_
  exact si_re rfl
def I12_sheetsOf (a0 : Int) (a1 : Int) : IM Int :=
  ib (idI (a0 + 1) 2) fun v1 =>
  ib (I12_sheetOf a0 v1 a1) fun v2 =>
  ir (v2 + 1)
theorem v_N12_sheetsOf  {n_a0 : Int32} {a0 : Int} (e_a0 : n_a0 = iI a0) {n_a1 : Int32} {a1 : Int} (e_a1 : n_a1 = iI a1) : Si iI (N12_sheetsOf  n_a0 n_a1) (I12_sheetsOf  a0 a1) := by
  subst e_a0
  subst e_a1
  unfold N12_sheetsOf I12_sheetsOf
  refine si_b (si_dI (eAdd rfl (eLit 1)) (eLit 2)) fun v1 => ?_
  refine si_b (v_N12_sheetOf rfl rfl rfl) fun v2 => ?_
  exact si_re (eAdd rfl (eLit 1))
def I12_numberOn_33 (k5 : Int → Int → Int → Int → Int → IM Int) (x0 : Int) (x1 : Int) (x2 : Int) (x4 : Int) (y0 : Int) (y1 : Int) : IM Int :=
  (k5 x0 x1 x2 (y1 + y0) (x4 + 1))
theorem v_N12_numberOn_33 {n_k5 : Int32 → Int32 → Int32 → Int32 → Int32 → NM Int32} {k5 : Int → Int → Int → Int → Int → IM Int} (hk5 : ∀ {n0 : Int32} {z0 : Int} (_ : n0 = iI z0) {n1 : Int32} {z1 : Int} (_ : n1 = iI z1) {n2 : Int32} {z2 : Int} (_ : n2 = iI z2) {n3 : Int32} {z3 : Int} (_ : n3 = iI z3) {n4 : Int32} {z4 : Int} (_ : n4 = iI z4), Si iI (n_k5 n0 n1 n2 n3 n4) (k5 z0 z1 z2 z3 z4)) {n_x0 : Int32} {x0 : Int} (e_x0 : n_x0 = iI x0) {n_x1 : Int32} {x1 : Int} (e_x1 : n_x1 = iI x1) {n_x2 : Int32} {x2 : Int} (e_x2 : n_x2 = iI x2) {n_x4 : Int32} {x4 : Int} (e_x4 : n_x4 = iI x4) {n_y0 : Int32} {y0 : Int} (e_y0 : n_y0 = iI y0) {n_y1 : Int32} {y1 : Int} (e_y1 : n_y1 = iI y1) : Si iI (N12_numberOn_33 n_k5 n_x0 n_x1 n_x2 n_x4 n_y0 n_y1) (I12_numberOn_33 k5 x0 x1 x2 x4 y0 y1) := by
  subst e_x0
  subst e_x1
  subst e_x2
  subst e_x4
  subst e_y0
  subst e_y1
  unfold N12_numberOn_33 I12_numberOn_33
  exact (hk5 rfl rfl rfl (eAdd rfl rfl) (eAdd rfl (eLit 1)))
def I12_numberOn_5_st (k5 : Int → Int → Int → Int → Int → IM Int) (x0 : Int) (x1 : Int) (x2 : Int) (x3 : Int) (x4 : Int) : IM Int :=
  ig (R32 x1) <|
  ig (R32 x4) <|
  if x1 < x4 then (ir x3) else (ib (I12_sheetOf x0 x4 x2) fun v1 =>
  ib (I12_sheetOf x0 x1 x2) fun v2 =>
  ig (R32 v1) <|
  ig (R32 v2) <|
  if v1 = v2 then ((I12_numberOn_33 k5 x0 x1 x2 x4 1 x3)) else ((I12_numberOn_33 k5 x0 x1 x2 x4 0 x3)))
theorem v_N12_numberOn_5_st {n_k5 : Int32 → Int32 → Int32 → Int32 → Int32 → NM Int32} {k5 : Int → Int → Int → Int → Int → IM Int} (hk5 : ∀ {n0 : Int32} {z0 : Int} (_ : n0 = iI z0) {n1 : Int32} {z1 : Int} (_ : n1 = iI z1) {n2 : Int32} {z2 : Int} (_ : n2 = iI z2) {n3 : Int32} {z3 : Int} (_ : n3 = iI z3) {n4 : Int32} {z4 : Int} (_ : n4 = iI z4), Si iI (n_k5 n0 n1 n2 n3 n4) (k5 z0 z1 z2 z3 z4)) {n_x0 : Int32} {x0 : Int} (e_x0 : n_x0 = iI x0) {n_x1 : Int32} {x1 : Int} (e_x1 : n_x1 = iI x1) {n_x2 : Int32} {x2 : Int} (e_x2 : n_x2 = iI x2) {n_x3 : Int32} {x3 : Int} (e_x3 : n_x3 = iI x3) {n_x4 : Int32} {x4 : Int} (e_x4 : n_x4 = iI x4) : Si iI (N12_numberOn_5_st n_k5 n_x0 n_x1 n_x2 n_x3 n_x4) (I12_numberOn_5_st k5 x0 x1 x2 x3 x4) := by
  subst e_x0
  subst e_x1
  subst e_x2
  subst e_x3
  subst e_x4
  unfold N12_numberOn_5_st I12_numberOn_5_st
  refine si_ig fun h1 => ?_
  refine si_ig fun h2 => ?_
  refine si_ite (cLt rfl rfl ⟨h1, h2⟩) ?_ ?_
  · exact si_re rfl
  · refine si_b (v_N12_sheetOf rfl rfl rfl) fun v1 => ?_
    refine si_b (v_N12_sheetOf rfl rfl rfl) fun v2 => ?_
    refine si_ig fun h3 => ?_
    refine si_ig fun h4 => ?_
    refine si_ite (cEq rfl rfl ⟨h3, h4⟩) ?_ ?_
    · exact (v_N12_numberOn_33 hk5 rfl rfl rfl rfl (eLit 1) rfl)
    · exact (v_N12_numberOn_33 hk5 rfl rfl rfl rfl (eLit 0) rfl)
def I12_numberOn_5 : Nat → Int → Int → Int → Int → Int → IM Int
  | 0 => fun _ _ _ _ _ => nof
  | n + 1 => fun x0 x1 x2 x3 x4 => I12_numberOn_5_st  (I12_numberOn_5  n) x0 x1 x2 x3 x4
theorem v_N12_numberOn_5  : ∀ (n : Nat) {n_x0 : Int32} {x0 : Int} (e_x0 : n_x0 = iI x0) {n_x1 : Int32} {x1 : Int} (e_x1 : n_x1 = iI x1) {n_x2 : Int32} {x2 : Int} (e_x2 : n_x2 = iI x2) {n_x3 : Int32} {x3 : Int} (e_x3 : n_x3 = iI x3) {n_x4 : Int32} {x4 : Int} (e_x4 : n_x4 = iI x4), Si iI (N12_numberOn_5  n n_x0 n_x1 n_x2 n_x3 n_x4) (I12_numberOn_5  n x0 x1 x2 x3 x4) := by
  intro n
  induction n with
  | zero => intro n_x0 x0 e_x0 n_x1 x1 e_x1 n_x2 x2 e_x2 n_x3 x3 e_x3 n_x4 x4 e_x4; exact si_nf
  | succ n ih => intro n_x0 x0 e_x0 n_x1 x1 e_x1 n_x2 x2 e_x2 n_x3 x3 e_x3 n_x4 x4 e_x4; exact v_N12_numberOn_5_st  (ih) e_x0 e_x1 e_x2 e_x3 e_x4
def I12_numberOn (a0 : Int) (a1 : Int) (a2 : Int) : IM Int :=
  (I12_numberOn_5 LFU a0 a1 a2 0 1)
theorem v_N12_numberOn  {n_a0 : Int32} {a0 : Int} (e_a0 : n_a0 = iI a0) {n_a1 : Int32} {a1 : Int} (e_a1 : n_a1 = iI a1) {n_a2 : Int32} {a2 : Int} (e_a2 : n_a2 = iI a2) : Si iI (N12_numberOn  n_a0 n_a1 n_a2) (I12_numberOn  a0 a1 a2) := by
  subst e_a0
  subst e_a1
  subst e_a2
  unfold N12_numberOn I12_numberOn
  exact (v_N12_numberOn_5 LFU rfl rfl rfl (eLit 0) (eLit 1))
def I12_look_149 (k54 : Int → Int → Int → Int → IM Unit) (k91 : Int → Int → Int → Int → Int → IM Unit) (x1 : Int) (x3 : Int) (x4 : Int) (x5 : Int) (x6 : Int) : IM Unit :=
  (k91 x1 x3 x4 x5 (x6 + 1))
theorem v_N12_look_149 {n_k54 : Int32 → Int32 → Int32 → Int32 → NM Unit} {k54 : Int → Int → Int → Int → IM Unit} (hk54 : ∀ {n0 : Int32} {z0 : Int} (_ : n0 = iI z0) {n1 : Int32} {z1 : Int} (_ : n1 = iI z1) {n2 : Int32} {z2 : Int} (_ : n2 = iI z2) {n3 : Int32} {z3 : Int} (_ : n3 = iI z3), Si (fun x : Unit => x) (n_k54 n0 n1 n2 n3) (k54 z0 z1 z2 z3)) {n_k91 : Int32 → Int32 → Int32 → Int32 → Int32 → NM Unit} {k91 : Int → Int → Int → Int → Int → IM Unit} (hk91 : ∀ {n0 : Int32} {z0 : Int} (_ : n0 = iI z0) {n1 : Int32} {z1 : Int} (_ : n1 = iI z1) {n2 : Int32} {z2 : Int} (_ : n2 = iI z2) {n3 : Int32} {z3 : Int} (_ : n3 = iI z3) {n4 : Int32} {z4 : Int} (_ : n4 = iI z4), Si (fun x : Unit => x) (n_k91 n0 n1 n2 n3 n4) (k91 z0 z1 z2 z3 z4)) {n_x1 : Int32} {x1 : Int} (e_x1 : n_x1 = iI x1) {n_x3 : Int32} {x3 : Int} (e_x3 : n_x3 = iI x3) {n_x4 : Int32} {x4 : Int} (e_x4 : n_x4 = iI x4) {n_x5 : Int32} {x5 : Int} (e_x5 : n_x5 = iI x5) {n_x6 : Int32} {x6 : Int} (e_x6 : n_x6 = iI x6) : Si (fun x : Unit => x) (N12_look_149 n_k54 n_k91 n_x1 n_x3 n_x4 n_x5 n_x6) (I12_look_149 k54 k91 x1 x3 x4 x5 x6) := by
  subst e_x1
  subst e_x3
  subst e_x4
  subst e_x5
  subst e_x6
  unfold N12_look_149 I12_look_149
  exact (hk91 rfl rfl rfl rfl (eAdd rfl (eLit 1)))
def I12_look_155 (k54 : Int → Int → Int → Int → IM Unit) (x1 : Int) (x3 : Int) (x4 : Int) (x5 : Int) : IM Unit :=
  ib (iaI 40 x5) fun v1 =>
  ig (R32 x4) <|
  ig (R32 v1) <|
  (k54 x1 x3 (if x4 < v1 then v1 else x4) (x5 + (-1)))
theorem v_N12_look_155 {n_k54 : Int32 → Int32 → Int32 → Int32 → NM Unit} {k54 : Int → Int → Int → Int → IM Unit} (hk54 : ∀ {n0 : Int32} {z0 : Int} (_ : n0 = iI z0) {n1 : Int32} {z1 : Int} (_ : n1 = iI z1) {n2 : Int32} {z2 : Int} (_ : n2 = iI z2) {n3 : Int32} {z3 : Int} (_ : n3 = iI z3), Si (fun x : Unit => x) (n_k54 n0 n1 n2 n3) (k54 z0 z1 z2 z3)) {n_x1 : Int32} {x1 : Int} (e_x1 : n_x1 = iI x1) {n_x3 : Int32} {x3 : Int} (e_x3 : n_x3 = iI x3) {n_x4 : Int32} {x4 : Int} (e_x4 : n_x4 = iI x4) {n_x5 : Int32} {x5 : Int} (e_x5 : n_x5 = iI x5) : Si (fun x : Unit => x) (N12_look_155 n_k54 n_x1 n_x3 n_x4 n_x5) (I12_look_155 k54 x1 x3 x4 x5) := by
  subst e_x1
  subst e_x3
  subst e_x4
  subst e_x5
  unfold N12_look_155 I12_look_155
  refine si_b (si_aI rfl) fun v1 => ?_
  refine si_ig fun h1 => ?_
  refine si_ig fun h2 => ?_
  exact (hk54 rfl rfl (eIte (cLt rfl rfl ⟨h1, h2⟩) rfl rfl) (eAdd rfl (eLn 1)))
def I12_look_91_st (k54 : Int → Int → Int → Int → IM Unit) (k91 : Int → Int → Int → Int → Int → IM Unit) (x1 : Int) (x3 : Int) (x4 : Int) (x5 : Int) (x6 : Int) : IM Unit :=
  ib (iaI 17 x1) fun v1 =>
  ig (R32 v1) <|
  ig (R32 x6) <|
  if v1 ≤ x6 then ((I12_look_155 k54 x1 x3 x4 x5)) else (ib (iaI 18 (x3 + x6)) fun v2 =>
  ib (iaI 18 (x3 + x5)) fun v3 =>
  ig (R32 v2) <|
  ig (R32 v3) <|
  if v2 ≤ v3 then ((I12_look_149 k54 k91 x1 x3 x4 x5 x6)) else (ib (iaI 40 x5) fun v4 =>
  ib (iaI 40 x6) fun v5 =>
  ig (R32 v4) <|
  ig (R32 (v5 + 1)) <|
  ib (isI 40 x5 (if v4 < (v5 + 1) then (v5 + 1) else v4)) fun _ =>
  (I12_look_149 k54 k91 x1 x3 x4 x5 x6)))
theorem v_N12_look_91_st {n_k54 : Int32 → Int32 → Int32 → Int32 → NM Unit} {k54 : Int → Int → Int → Int → IM Unit} (hk54 : ∀ {n0 : Int32} {z0 : Int} (_ : n0 = iI z0) {n1 : Int32} {z1 : Int} (_ : n1 = iI z1) {n2 : Int32} {z2 : Int} (_ : n2 = iI z2) {n3 : Int32} {z3 : Int} (_ : n3 = iI z3), Si (fun x : Unit => x) (n_k54 n0 n1 n2 n3) (k54 z0 z1 z2 z3)) {n_k91 : Int32 → Int32 → Int32 → Int32 → Int32 → NM Unit} {k91 : Int → Int → Int → Int → Int → IM Unit} (hk91 : ∀ {n0 : Int32} {z0 : Int} (_ : n0 = iI z0) {n1 : Int32} {z1 : Int} (_ : n1 = iI z1) {n2 : Int32} {z2 : Int} (_ : n2 = iI z2) {n3 : Int32} {z3 : Int} (_ : n3 = iI z3) {n4 : Int32} {z4 : Int} (_ : n4 = iI z4), Si (fun x : Unit => x) (n_k91 n0 n1 n2 n3 n4) (k91 z0 z1 z2 z3 z4)) {n_x1 : Int32} {x1 : Int} (e_x1 : n_x1 = iI x1) {n_x3 : Int32} {x3 : Int} (e_x3 : n_x3 = iI x3) {n_x4 : Int32} {x4 : Int} (e_x4 : n_x4 = iI x4) {n_x5 : Int32} {x5 : Int} (e_x5 : n_x5 = iI x5) {n_x6 : Int32} {x6 : Int} (e_x6 : n_x6 = iI x6) : Si (fun x : Unit => x) (N12_look_91_st n_k54 n_k91 n_x1 n_x3 n_x4 n_x5 n_x6) (I12_look_91_st k54 k91 x1 x3 x4 x5 x6) := by
  subst e_x1
  subst e_x3
  subst e_x4
  subst e_x5
  subst e_x6
  unfold N12_look_91_st I12_look_91_st
  refine si_b (si_aI rfl) fun v1 => ?_
  refine si_ig fun h1 => ?_
  refine si_ig fun h2 => ?_
  refine si_ite (cLe rfl rfl ⟨h1, h2⟩) ?_ ?_
  · exact (v_N12_look_155 hk54 rfl rfl rfl rfl)
  · refine si_b (si_aI (eAdd rfl rfl)) fun v2 => ?_
    refine si_b (si_aI (eAdd rfl rfl)) fun v3 => ?_
    refine si_ig fun h3 => ?_
    refine si_ig fun h4 => ?_
    refine si_ite (cLe rfl rfl ⟨h3, h4⟩) ?_ ?_
    · exact (v_N12_look_149 hk54 hk91 rfl rfl rfl rfl rfl)
    · refine si_b (si_aI rfl) fun v4 => ?_
      refine si_b (si_aI rfl) fun v5 => ?_
      refine si_ig fun h5 => ?_
      refine si_ig fun h6 => ?_
      refine si_b (si_sI rfl (eIte (cLt rfl (eAdd rfl (eLit 1)) ⟨h5, h6⟩) (eAdd rfl (eLit 1)) rfl)) fun _ => ?_
      exact (v_N12_look_149 hk54 hk91 rfl rfl rfl rfl rfl)
def I12_look_91 (k54 : Int → Int → Int → Int → IM Unit) : Nat → Int → Int → Int → Int → Int → IM Unit
  | 0 => fun _ _ _ _ _ => nof
  | n + 1 => fun x1 x3 x4 x5 x6 => I12_look_91_st k54 (I12_look_91 k54 n) x1 x3 x4 x5 x6
theorem v_N12_look_91 {n_k54 : Int32 → Int32 → Int32 → Int32 → NM Unit} {k54 : Int → Int → Int → Int → IM Unit} (hk54 : ∀ {n0 : Int32} {z0 : Int} (_ : n0 = iI z0) {n1 : Int32} {z1 : Int} (_ : n1 = iI z1) {n2 : Int32} {z2 : Int} (_ : n2 = iI z2) {n3 : Int32} {z3 : Int} (_ : n3 = iI z3), Si (fun x : Unit => x) (n_k54 n0 n1 n2 n3) (k54 z0 z1 z2 z3)) : ∀ (n : Nat) {n_x1 : Int32} {x1 : Int} (e_x1 : n_x1 = iI x1) {n_x3 : Int32} {x3 : Int} (e_x3 : n_x3 = iI x3) {n_x4 : Int32} {x4 : Int} (e_x4 : n_x4 = iI x4) {n_x5 : Int32} {x5 : Int} (e_x5 : n_x5 = iI x5) {n_x6 : Int32} {x6 : Int} (e_x6 : n_x6 = iI x6), Si (fun x : Unit => x) (N12_look_91 n_k54 n n_x1 n_x3 n_x4 n_x5 n_x6) (I12_look_91 k54 n x1 x3 x4 x5 x6) := by
  intro n
  induction n with
  | zero => intro n_x1 x1 e_x1 n_x3 x3 e_x3 n_x4 x4 e_x4 n_x5 x5 e_x5 n_x6 x6 e_x6; exact si_nf
  | succ n ih => intro n_x1 x1 e_x1 n_x3 x3 e_x3 n_x4 x4 e_x4 n_x5 x5 e_x5 n_x6 x6 e_x6; exact v_N12_look_91_st hk54 (ih) e_x1 e_x3 e_x4 e_x5 e_x6
def I12_look_257 (k181 : Int → Int → Int → Int → Int → IM Unit) (x1 : Int) (x3 : Int) (x4 : Int) (x5 : Int) (x6 : Int) : IM Unit :=
  (k181 x1 x3 x4 x5 (x6 + 1))
theorem v_N12_look_257 {n_k181 : Int32 → Int32 → Int32 → Int32 → Int32 → NM Unit} {k181 : Int → Int → Int → Int → Int → IM Unit} (hk181 : ∀ {n0 : Int32} {z0 : Int} (_ : n0 = iI z0) {n1 : Int32} {z1 : Int} (_ : n1 = iI z1) {n2 : Int32} {z2 : Int} (_ : n2 = iI z2) {n3 : Int32} {z3 : Int} (_ : n3 = iI z3) {n4 : Int32} {z4 : Int} (_ : n4 = iI z4), Si (fun x : Unit => x) (n_k181 n0 n1 n2 n3 n4) (k181 z0 z1 z2 z3 z4)) {n_x1 : Int32} {x1 : Int} (e_x1 : n_x1 = iI x1) {n_x3 : Int32} {x3 : Int} (e_x3 : n_x3 = iI x3) {n_x4 : Int32} {x4 : Int} (e_x4 : n_x4 = iI x4) {n_x5 : Int32} {x5 : Int} (e_x5 : n_x5 = iI x5) {n_x6 : Int32} {x6 : Int} (e_x6 : n_x6 = iI x6) : Si (fun x : Unit => x) (N12_look_257 n_k181 n_x1 n_x3 n_x4 n_x5 n_x6) (I12_look_257 k181 x1 x3 x4 x5 x6) := by
  subst e_x1
  subst e_x3
  subst e_x4
  subst e_x5
  subst e_x6
  unfold N12_look_257 I12_look_257
  exact (hk181 rfl rfl rfl rfl (eAdd rfl (eLit 1)))
def I12_look_229 (k181 : Int → Int → Int → Int → Int → IM Unit) (x1 : Int) (x3 : Int) (x4 : Int) (x5 : Int) (x6 : Int) (y0 : Int) (y1 : Int) (y2 : Nat) : IM Unit :=
  ib (isZ' y2 y1 y0) fun _ =>
  ib (iaZ 41 x6) fun v1 =>
  ig (R32 v1) <|
  if v1 = 0 then ((I12_look_257 k181 x1 x3 x4 x5 x6)) else (ib (iaI 18 (x3 + x6)) fun v2 =>
  (I12_look_257 k181 x1 x3 (x4 + (-1)) v2 x6))
theorem v_N12_look_229 {n_k181 : Int32 → Int32 → Int32 → Int32 → Int32 → NM Unit} {k181 : Int → Int → Int → Int → Int → IM Unit} (hk181 : ∀ {n0 : Int32} {z0 : Int} (_ : n0 = iI z0) {n1 : Int32} {z1 : Int} (_ : n1 = iI z1) {n2 : Int32} {z2 : Int} (_ : n2 = iI z2) {n3 : Int32} {z3 : Int} (_ : n3 = iI z3) {n4 : Int32} {z4 : Int} (_ : n4 = iI z4), Si (fun x : Unit => x) (n_k181 n0 n1 n2 n3 n4) (k181 z0 z1 z2 z3 z4)) {n_x1 : Int32} {x1 : Int} (e_x1 : n_x1 = iI x1) {n_x3 : Int32} {x3 : Int} (e_x3 : n_x3 = iI x3) {n_x4 : Int32} {x4 : Int} (e_x4 : n_x4 = iI x4) {n_x5 : Int32} {x5 : Int} (e_x5 : n_x5 = iI x5) {n_x6 : Int32} {x6 : Int} (e_x6 : n_x6 = iI x6) {n_y0 : Int32} {y0 : Int} (e_y0 : n_y0 = iI y0) {n_y1 : Int32} {y1 : Int} (e_y1 : n_y1 = iI y1) (y2 : Nat) : Si (fun x : Unit => x) (N12_look_229 n_k181 n_x1 n_x3 n_x4 n_x5 n_x6 n_y0 n_y1 y2) (I12_look_229 k181 x1 x3 x4 x5 x6 y0 y1 y2) := by
  subst e_x1
  subst e_x3
  subst e_x4
  subst e_x5
  subst e_x6
  subst e_y0
  subst e_y1
  unfold N12_look_229 I12_look_229
  refine si_b (si_sZ rfl rfl) fun _ => ?_
  refine si_b (si_aZ rfl) fun v1 => ?_
  refine si_ig fun h1 => ?_
  refine si_ite (cEq rfl (eLit 0) ⟨h1, (by decide)⟩) ?_ ?_
  · exact (v_N12_look_257 hk181 rfl rfl rfl rfl rfl)
  · refine si_b (si_aI (eAdd rfl rfl)) fun v2 => ?_
    exact (v_N12_look_257 hk181 rfl rfl (eAdd rfl (eLn 1)) rfl rfl)
def I12_look_228 (k181 : Int → Int → Int → Int → Int → IM Unit) (x1 : Int) (x3 : Int) (x4 : Int) (x5 : Int) (x6 : Int) (y0 : Int) (y1 : Nat) : IM Unit :=
  (I12_look_229 k181 x1 x3 x4 x5 x6 0 y0 y1)
theorem v_N12_look_228 {n_k181 : Int32 → Int32 → Int32 → Int32 → Int32 → NM Unit} {k181 : Int → Int → Int → Int → Int → IM Unit} (hk181 : ∀ {n0 : Int32} {z0 : Int} (_ : n0 = iI z0) {n1 : Int32} {z1 : Int} (_ : n1 = iI z1) {n2 : Int32} {z2 : Int} (_ : n2 = iI z2) {n3 : Int32} {z3 : Int} (_ : n3 = iI z3) {n4 : Int32} {z4 : Int} (_ : n4 = iI z4), Si (fun x : Unit => x) (n_k181 n0 n1 n2 n3 n4) (k181 z0 z1 z2 z3 z4)) {n_x1 : Int32} {x1 : Int} (e_x1 : n_x1 = iI x1) {n_x3 : Int32} {x3 : Int} (e_x3 : n_x3 = iI x3) {n_x4 : Int32} {x4 : Int} (e_x4 : n_x4 = iI x4) {n_x5 : Int32} {x5 : Int} (e_x5 : n_x5 = iI x5) {n_x6 : Int32} {x6 : Int} (e_x6 : n_x6 = iI x6) {n_y0 : Int32} {y0 : Int} (e_y0 : n_y0 = iI y0) (y1 : Nat) : Si (fun x : Unit => x) (N12_look_228 n_k181 n_x1 n_x3 n_x4 n_x5 n_x6 n_y0 y1) (I12_look_228 k181 x1 x3 x4 x5 x6 y0 y1) := by
  subst e_x1
  subst e_x3
  subst e_x4
  subst e_x5
  subst e_x6
  subst e_y0
  unfold N12_look_228 I12_look_228
  exact (v_N12_look_229 hk181 rfl rfl rfl rfl rfl (eLit 0) rfl y1)
def I12_look_181_st (k181 : Int → Int → Int → Int → Int → IM Unit) (x1 : Int) (x3 : Int) (x4 : Int) (x5 : Int) (x6 : Int) : IM Unit :=
  ib (iaI 17 x1) fun v1 =>
  ig (R32 v1) <|
  ig (R32 x6) <|
  if v1 ≤ x6 then (ir ()) else (ib (iaI 40 x6) fun v2 =>
  ig (R32 v2) <|
  ig (R32 x4) <|
  if v2 = x4 then (ib (iaI 18 (x3 + x6)) fun v3 =>
  ig (R32 v3) <|
  ig (R32 x5) <|
  if v3 ≤ x5 then ((I12_look_228 k181 x1 x3 x4 x5 x6 x6 41)) else ((I12_look_229 k181 x1 x3 x4 x5 x6 1 x6 41))) else ((I12_look_228 k181 x1 x3 x4 x5 x6 x6 41)))
theorem v_N12_look_181_st {n_k181 : Int32 → Int32 → Int32 → Int32 → Int32 → NM Unit} {k181 : Int → Int → Int → Int → Int → IM Unit} (hk181 : ∀ {n0 : Int32} {z0 : Int} (_ : n0 = iI z0) {n1 : Int32} {z1 : Int} (_ : n1 = iI z1) {n2 : Int32} {z2 : Int} (_ : n2 = iI z2) {n3 : Int32} {z3 : Int} (_ : n3 = iI z3) {n4 : Int32} {z4 : Int} (_ : n4 = iI z4), Si (fun x : Unit => x) (n_k181 n0 n1 n2 n3 n4) (k181 z0 z1 z2 z3 z4)) {n_x1 : Int32} {x1 : Int} (e_x1 : n_x1 = iI x1) {n_x3 : Int32} {x3 : Int} (e_x3 : n_x3 = iI x3) {n_x4 : Int32} {x4 : Int} (e_x4 : n_x4 = iI x4) {n_x5 : Int32} {x5 : Int} (e_x5 : n_x5 = iI x5) {n_x6 : Int32} {x6 : Int} (e_x6 : n_x6 = iI x6) : Si (fun x : Unit => x) (N12_look_181_st n_k181 n_x1 n_x3 n_x4 n_x5 n_x6) (I12_look_181_st k181 x1 x3 x4 x5 x6) := by
  subst e_x1
  subst e_x3
  subst e_x4
  subst e_x5
  subst e_x6
  unfold N12_look_181_st I12_look_181_st
  refine si_b (si_aI rfl) fun v1 => ?_
  refine si_ig fun h1 => ?_
  refine si_ig fun h2 => ?_
  refine si_ite (cLe rfl rfl ⟨h1, h2⟩) ?_ ?_
  · exact si_rn
  · refine si_b (si_aI rfl) fun v2 => ?_
    refine si_ig fun h3 => ?_
    refine si_ig fun h4 => ?_
    refine si_ite (cEq rfl rfl ⟨h3, h4⟩) ?_ ?_
    · refine si_b (si_aI (eAdd rfl rfl)) fun v3 => ?_
      refine si_ig fun h5 => ?_
      refine si_ig fun h6 => ?_
      refine si_ite (cLe rfl rfl ⟨h5, h6⟩) ?_ ?_
      · exact (v_N12_look_228 hk181 rfl rfl rfl rfl rfl rfl 41)
      · exact (v_N12_look_229 hk181 rfl rfl rfl rfl rfl (eLit 1) rfl 41)
    · exact (v_N12_look_228 hk181 rfl rfl rfl rfl rfl rfl 41)
def I12_look_181 : Nat → Int → Int → Int → Int → Int → IM Unit
  | 0 => fun _ _ _ _ _ => nof
  | n + 1 => fun x1 x3 x4 x5 x6 => I12_look_181_st  (I12_look_181  n) x1 x3 x4 x5 x6
theorem v_N12_look_181  : ∀ (n : Nat) {n_x1 : Int32} {x1 : Int} (e_x1 : n_x1 = iI x1) {n_x3 : Int32} {x3 : Int} (e_x3 : n_x3 = iI x3) {n_x4 : Int32} {x4 : Int} (e_x4 : n_x4 = iI x4) {n_x5 : Int32} {x5 : Int} (e_x5 : n_x5 = iI x5) {n_x6 : Int32} {x6 : Int} (e_x6 : n_x6 = iI x6), Si (fun x : Unit => x) (N12_look_181  n n_x1 n_x3 n_x4 n_x5 n_x6) (I12_look_181  n x1 x3 x4 x5 x6) := by
  intro n
  induction n with
  | zero => intro n_x1 x1 e_x1 n_x3 x3 e_x3 n_x4 x4 e_x4 n_x5 x5 e_x5 n_x6 x6 e_x6; exact si_nf
  | succ n ih => intro n_x1 x1 e_x1 n_x3 x3 e_x3 n_x4 x4 e_x4 n_x5 x5 e_x5 n_x6 x6 e_x6; exact v_N12_look_181_st  (ih) e_x1 e_x3 e_x4 e_x5 e_x6
def I12_look_175 (x1 : Int) (x3 : Int) (x4 : Int) : IM Unit :=
  (I12_look_181 LFU x1 x3 x4 (-1) 0)
theorem v_N12_look_175  {n_x1 : Int32} {x1 : Int} (e_x1 : n_x1 = iI x1) {n_x3 : Int32} {x3 : Int} (e_x3 : n_x3 = iI x3) {n_x4 : Int32} {x4 : Int} (e_x4 : n_x4 = iI x4) : Si (fun x : Unit => x) (N12_look_175  n_x1 n_x3 n_x4) (I12_look_175  x1 x3 x4) := by
  subst e_x1
  subst e_x3
  subst e_x4
  unfold N12_look_175 I12_look_175
  exact (v_N12_look_181 LFU rfl rfl rfl (eLn 1) (eLit 0))
def I12_look_54_st (k54 : Int → Int → Int → Int → IM Unit) (x1 : Int) (x3 : Int) (x4 : Int) (x5 : Int) : IM Unit :=
  ig (R32 x5) <|
  if x5 < 0 then ((I12_look_175 x1 x3 x4)) else (ib (iaI 18 (x3 + x5)) fun v1 =>
  ib (iaI 39 v1) fun v2 =>
  ib (isI 39 v1 (v2 + 1)) fun _ =>
  ib (isI 40 x5 1) fun _ =>
  (I12_look_91 k54 LFU x1 x3 x4 x5 (x5 + 1)))
theorem v_N12_look_54_st {n_k54 : Int32 → Int32 → Int32 → Int32 → NM Unit} {k54 : Int → Int → Int → Int → IM Unit} (hk54 : ∀ {n0 : Int32} {z0 : Int} (_ : n0 = iI z0) {n1 : Int32} {z1 : Int} (_ : n1 = iI z1) {n2 : Int32} {z2 : Int} (_ : n2 = iI z2) {n3 : Int32} {z3 : Int} (_ : n3 = iI z3), Si (fun x : Unit => x) (n_k54 n0 n1 n2 n3) (k54 z0 z1 z2 z3)) {n_x1 : Int32} {x1 : Int} (e_x1 : n_x1 = iI x1) {n_x3 : Int32} {x3 : Int} (e_x3 : n_x3 = iI x3) {n_x4 : Int32} {x4 : Int} (e_x4 : n_x4 = iI x4) {n_x5 : Int32} {x5 : Int} (e_x5 : n_x5 = iI x5) : Si (fun x : Unit => x) (N12_look_54_st n_k54 n_x1 n_x3 n_x4 n_x5) (I12_look_54_st k54 x1 x3 x4 x5) := by
  subst e_x1
  subst e_x3
  subst e_x4
  subst e_x5
  unfold N12_look_54_st I12_look_54_st
  refine si_ig fun h1 => ?_
  refine si_ite (cLt rfl (eLit 0) ⟨h1, (by decide)⟩) ?_ ?_
  · exact (v_N12_look_175 rfl rfl rfl)
  · refine si_b (si_aI (eAdd rfl rfl)) fun v1 => ?_
    refine si_b (si_aI rfl) fun v2 => ?_
    refine si_b (si_sI rfl (eAdd rfl (eLit 1))) fun _ => ?_
    refine si_b (si_sI rfl (eLit 1)) fun _ => ?_
    exact (v_N12_look_91 hk54 LFU rfl rfl rfl rfl (eAdd rfl (eLit 1)))
def I12_look_54 : Nat → Int → Int → Int → Int → IM Unit
  | 0 => fun _ _ _ _ => nof
  | n + 1 => fun x1 x3 x4 x5 => I12_look_54_st  (I12_look_54  n) x1 x3 x4 x5
theorem v_N12_look_54  : ∀ (n : Nat) {n_x1 : Int32} {x1 : Int} (e_x1 : n_x1 = iI x1) {n_x3 : Int32} {x3 : Int} (e_x3 : n_x3 = iI x3) {n_x4 : Int32} {x4 : Int} (e_x4 : n_x4 = iI x4) {n_x5 : Int32} {x5 : Int} (e_x5 : n_x5 = iI x5), Si (fun x : Unit => x) (N12_look_54  n n_x1 n_x3 n_x4 n_x5) (I12_look_54  n x1 x3 x4 x5) := by
  intro n
  induction n with
  | zero => intro n_x1 x1 e_x1 n_x3 x3 e_x3 n_x4 x4 e_x4 n_x5 x5 e_x5; exact si_nf
  | succ n ih => intro n_x1 x1 e_x1 n_x3 x3 e_x3 n_x4 x4 e_x4 n_x5 x5 e_x5; exact v_N12_look_54_st  (ih) e_x1 e_x3 e_x4 e_x5
def I12_look_41 (x1 : Int) (x3 : Int) : IM Unit :=
  ib (iaI 17 x1) fun v1 =>
  (I12_look_54 LFU x1 x3 0 (v1 - 1))
theorem v_N12_look_41  {n_x1 : Int32} {x1 : Int} (e_x1 : n_x1 = iI x1) {n_x3 : Int32} {x3 : Int} (e_x3 : n_x3 = iI x3) : Si (fun x : Unit => x) (N12_look_41  n_x1 n_x3) (I12_look_41  x1 x3) := by
  subst e_x1
  subst e_x3
  unfold N12_look_41 I12_look_41
  refine si_b (si_aI rfl) fun v1 => ?_
  exact (v_N12_look_54 LFU rfl rfl (eLit 0) (eSub rfl (eLit 1)))
def I12_look_16_st (k16 : Int → Int → Int → Int → IM Unit) (x1 : Int) (x2 : Int) (x3 : Int) (x4 : Int) : IM Unit :=
  ib (iaI 11 x2) fun v1 =>
  ig (R32 v1) <|
  ig (R32 x4) <|
  if v1 ≤ x4 then ((I12_look_41 x1 x3)) else (ib (isI 39 x4 0) fun _ =>
  (k16 x1 x2 x3 (x4 + 1)))
theorem v_N12_look_16_st {n_k16 : Int32 → Int32 → Int32 → Int32 → NM Unit} {k16 : Int → Int → Int → Int → IM Unit} (hk16 : ∀ {n0 : Int32} {z0 : Int} (_ : n0 = iI z0) {n1 : Int32} {z1 : Int} (_ : n1 = iI z1) {n2 : Int32} {z2 : Int} (_ : n2 = iI z2) {n3 : Int32} {z3 : Int} (_ : n3 = iI z3), Si (fun x : Unit => x) (n_k16 n0 n1 n2 n3) (k16 z0 z1 z2 z3)) {n_x1 : Int32} {x1 : Int} (e_x1 : n_x1 = iI x1) {n_x2 : Int32} {x2 : Int} (e_x2 : n_x2 = iI x2) {n_x3 : Int32} {x3 : Int} (e_x3 : n_x3 = iI x3) {n_x4 : Int32} {x4 : Int} (e_x4 : n_x4 = iI x4) : Si (fun x : Unit => x) (N12_look_16_st n_k16 n_x1 n_x2 n_x3 n_x4) (I12_look_16_st k16 x1 x2 x3 x4) := by
  subst e_x1
  subst e_x2
  subst e_x3
  subst e_x4
  unfold N12_look_16_st I12_look_16_st
  refine si_b (si_aI rfl) fun v1 => ?_
  refine si_ig fun h1 => ?_
  refine si_ig fun h2 => ?_
  refine si_ite (cLe rfl rfl ⟨h1, h2⟩) ?_ ?_
  · exact (v_N12_look_41 rfl rfl)
  · refine si_b (si_sI rfl (eLit 0)) fun _ => ?_
    exact (hk16 rfl rfl rfl (eAdd rfl (eLit 1)))
def I12_look_16 : Nat → Int → Int → Int → Int → IM Unit
  | 0 => fun _ _ _ _ => nof
  | n + 1 => fun x1 x2 x3 x4 => I12_look_16_st  (I12_look_16  n) x1 x2 x3 x4
theorem v_N12_look_16  : ∀ (n : Nat) {n_x1 : Int32} {x1 : Int} (e_x1 : n_x1 = iI x1) {n_x2 : Int32} {x2 : Int} (e_x2 : n_x2 = iI x2) {n_x3 : Int32} {x3 : Int} (e_x3 : n_x3 = iI x3) {n_x4 : Int32} {x4 : Int} (e_x4 : n_x4 = iI x4), Si (fun x : Unit => x) (N12_look_16  n n_x1 n_x2 n_x3 n_x4) (I12_look_16  n x1 x2 x3 x4) := by
  intro n
  induction n with
  | zero => intro n_x1 x1 e_x1 n_x2 x2 e_x2 n_x3 x3 e_x3 n_x4 x4 e_x4; exact si_nf
  | succ n ih => intro n_x1 x1 e_x1 n_x2 x2 e_x2 n_x3 x3 e_x3 n_x4 x4 e_x4; exact v_N12_look_16_st  (ih) e_x1 e_x2 e_x3 e_x4
def I12_look (a1 : Int) : IM Unit :=
  ib (iaI 16 a1) fun v1 =>
  (I12_look_16 LFU a1 v1 (a1 * 400) 0)
theorem v_N12_look  {n_a1 : Int32} {a1 : Int} (e_a1 : n_a1 = iI a1) : Si (fun x : Unit => x) (N12_look  n_a1) (I12_look  a1) := by
  subst e_a1
  unfold N12_look I12_look
  refine si_b (si_aI rfl) fun v1 => ?_
  exact (v_N12_look_16 LFU rfl rfl (eMul rfl (eLit 400)) (eLit 0))
def I12_isTold (a1 : Int) (a2 : Int) (a3 : Int) : IM Int :=
  ib (iaI 16 a1) fun v1 =>
  ig (R32 a2) <|
  if a2 = 2 then (ib (iaI 39 a3) fun v2 =>
  ig (R32 v2) <|
  if v2 = 0 then (ir 1) else (ir 0)) else (if a2 = 3 then (ib (iaI 39 a3) fun v3 =>
  ig (R32 v3) <|
  if v3 ≤ 1 then (ir 0) else (ir 1)) else (if a2 = 4 then (ib (iaZ 41 a3) fun v4 =>
  ig (R32 v4) <|
  if v4 = 0 then (ir 1) else (ir 0)) else (ib (I12_conjugate v1 a3) fun v5 =>
  ib (iaI 39 a3) fun v6 =>
  ig (R32 v6) <|
  if v6 ≤ 0 then (ir 0) else (ig (R32 v5) <|
  if v5 < 0 then (ir 0) else (ib (iaI 39 v5) fun v7 =>
  ig (R32 v7) <|
  if v7 = 0 then (ir 1) else (ir 0))))))
theorem v_N12_isTold  {n_a1 : Int32} {a1 : Int} (e_a1 : n_a1 = iI a1) {n_a2 : Int32} {a2 : Int} (e_a2 : n_a2 = iI a2) {n_a3 : Int32} {a3 : Int} (e_a3 : n_a3 = iI a3) : Si iI (N12_isTold  n_a1 n_a2 n_a3) (I12_isTold  a1 a2 a3) := by
  subst e_a1
  subst e_a2
  subst e_a3
  unfold N12_isTold I12_isTold
  refine si_b (si_aI rfl) fun v1 => ?_
  refine si_ig fun h1 => ?_
  refine si_ite (cEq rfl (eLit 2) ⟨h1, (by decide)⟩) ?_ ?_
  · refine si_b (si_aI rfl) fun v2 => ?_
    refine si_ig fun h2 => ?_
    refine si_ite (cEq rfl (eLit 0) ⟨h2, (by decide)⟩) ?_ ?_
    · exact si_re (eLit 1)
    · exact si_re (eLit 0)
  · refine si_ite (cEq rfl (eLit 3) ⟨h1, (by decide)⟩) ?_ ?_
    · refine si_b (si_aI rfl) fun v3 => ?_
      refine si_ig fun h2 => ?_
      refine si_ite (cLe rfl (eLit 1) ⟨h2, (by decide)⟩) ?_ ?_
      · exact si_re (eLit 0)
      · exact si_re (eLit 1)
    · refine si_ite (cEq rfl (eLit 4) ⟨h1, (by decide)⟩) ?_ ?_
      · refine si_b (si_aZ rfl) fun v4 => ?_
        refine si_ig fun h2 => ?_
        refine si_ite (cEq rfl (eLit 0) ⟨h2, (by decide)⟩) ?_ ?_
        · exact si_re (eLit 1)
        · exact si_re (eLit 0)
      · refine si_b (v_N12_conjugate rfl rfl) fun v5 => ?_
        refine si_b (si_aI rfl) fun v6 => ?_
        refine si_ig fun h2 => ?_
        refine si_ite (cLe rfl (eLit 0) ⟨h2, (by decide)⟩) ?_ ?_
        · exact si_re (eLit 0)
        · refine si_ig fun h3 => ?_
          refine si_ite (cLt rfl (eLit 0) ⟨h3, (by decide)⟩) ?_ ?_
          · exact si_re (eLit 0)
          · refine si_b (si_aI rfl) fun v7 => ?_
            refine si_ig fun h4 => ?_
            refine si_ite (cEq rfl (eLit 0) ⟨h4, (by decide)⟩) ?_ ?_
            · exact si_re (eLit 1)
            · exact si_re (eLit 0)
def I12_many (a1 : Int) (a2 : Int) : IM Int :=
  ig (R32 a2) <|
  if a2 = 4 then (ib (iaI 17 a1) fun v1 =>
  ir v1) else (ib (iaI 16 a1) fun v2 =>
  ib (iaI 11 v2) fun v3 =>
  ir v3)
theorem v_N12_many  {n_a1 : Int32} {a1 : Int} (e_a1 : n_a1 = iI a1) {n_a2 : Int32} {a2 : Int} (e_a2 : n_a2 = iI a2) : Si iI (N12_many  n_a1 n_a2) (I12_many  a1 a2) := by
  subst e_a1
  subst e_a2
  unfold N12_many I12_many
  refine si_ig fun h1 => ?_
  refine si_ite (cEq rfl (eLit 4) ⟨h1, (by decide)⟩) ?_ ?_
  · refine si_b (si_aI rfl) fun v1 => ?_
    exact si_re rfl
  · refine si_b (si_aI rfl) fun v2 => ?_
    refine si_b (si_aI rfl) fun v3 => ?_
    exact si_re rfl
def I12_writeRuns_119 (k13 : Int → Int → Int → Int → Int → IM Unit) (x1 : Int) (x2 : Int) (x3 : Int) (x4 : Int) (x6 : Int) : IM Unit :=
  (k13 x1 x2 x3 x4 (x6 + 1))
theorem v_N12_writeRuns_119 {n_k13 : Int32 → Int32 → Int32 → Int32 → Int32 → NM Unit} {k13 : Int → Int → Int → Int → Int → IM Unit} (hk13 : ∀ {n0 : Int32} {z0 : Int} (_ : n0 = iI z0) {n1 : Int32} {z1 : Int} (_ : n1 = iI z1) {n2 : Int32} {z2 : Int} (_ : n2 = iI z2) {n3 : Int32} {z3 : Int} (_ : n3 = iI z3) {n4 : Int32} {z4 : Int} (_ : n4 = iI z4), Si (fun x : Unit => x) (n_k13 n0 n1 n2 n3 n4) (k13 z0 z1 z2 z3 z4)) {n_x1 : Int32} {x1 : Int} (e_x1 : n_x1 = iI x1) {n_x2 : Int32} {x2 : Int} (e_x2 : n_x2 = iI x2) {n_x3 : Int32} {x3 : Int} (e_x3 : n_x3 = iI x3) {n_x4 : Int32} {x4 : Int} (e_x4 : n_x4 = iI x4) {n_x6 : Int32} {x6 : Int} (e_x6 : n_x6 = iI x6) : Si (fun x : Unit => x) (N12_writeRuns_119 n_k13 n_x1 n_x2 n_x3 n_x4 n_x6) (I12_writeRuns_119 k13 x1 x2 x3 x4 x6) := by
  subst e_x1
  subst e_x2
  subst e_x3
  subst e_x4
  subst e_x6
  unfold N12_writeRuns_119 I12_writeRuns_119
  exact (hk13 rfl rfl rfl rfl (eAdd rfl (eLit 1)))
def I12_writeRuns_89 (k13 : Int → Int → Int → Int → Int → IM Unit) (x1 : Int) (x2 : Int) (x3 : Int) (x5 : Int) (x6 : Int) : IM Unit :=
  ib (I12_writeName x3 x5) fun _ =>
  ig (R32 x6) <|
  ig (R32 x5) <|
  if x6 ≤ x5 then ((I12_writeRuns_119 k13 x1 x2 x3 1 x6)) else (ib (I12_write 45) fun _ =>
  ib (I12_writeName x3 x6) fun _ =>
  (I12_writeRuns_119 k13 x1 x2 x3 1 x6))
theorem v_N12_writeRuns_89 {n_k13 : Int32 → Int32 → Int32 → Int32 → Int32 → NM Unit} {k13 : Int → Int → Int → Int → Int → IM Unit} (hk13 : ∀ {n0 : Int32} {z0 : Int} (_ : n0 = iI z0) {n1 : Int32} {z1 : Int} (_ : n1 = iI z1) {n2 : Int32} {z2 : Int} (_ : n2 = iI z2) {n3 : Int32} {z3 : Int} (_ : n3 = iI z3) {n4 : Int32} {z4 : Int} (_ : n4 = iI z4), Si (fun x : Unit => x) (n_k13 n0 n1 n2 n3 n4) (k13 z0 z1 z2 z3 z4)) {n_x1 : Int32} {x1 : Int} (e_x1 : n_x1 = iI x1) {n_x2 : Int32} {x2 : Int} (e_x2 : n_x2 = iI x2) {n_x3 : Int32} {x3 : Int} (e_x3 : n_x3 = iI x3) {n_x5 : Int32} {x5 : Int} (e_x5 : n_x5 = iI x5) {n_x6 : Int32} {x6 : Int} (e_x6 : n_x6 = iI x6) : Si (fun x : Unit => x) (N12_writeRuns_89 n_k13 n_x1 n_x2 n_x3 n_x5 n_x6) (I12_writeRuns_89 k13 x1 x2 x3 x5 x6) := by
  subst e_x1
  subst e_x2
  subst e_x3
  subst e_x5
  subst e_x6
  unfold N12_writeRuns_89 I12_writeRuns_89
  refine si_b (v_N12_writeName rfl rfl) fun _ => ?_
  refine si_ig fun h1 => ?_
  refine si_ig fun h2 => ?_
  refine si_ite (cLe rfl rfl ⟨h1, h2⟩) ?_ ?_
  · exact (v_N12_writeRuns_119 hk13 rfl rfl rfl (eLit 1) rfl)
  · refine si_b (v_N12_write (eLit 45)) fun _ => ?_
    refine si_b (v_N12_writeName rfl rfl) fun _ => ?_
    exact (v_N12_writeRuns_119 hk13 rfl rfl rfl (eLit 1) rfl)
def I12_writeRuns_77 (k13 : Int → Int → Int → Int → Int → IM Unit) (x1 : Int) (x2 : Int) (x3 : Int) (x4 : Int) (x5 : Int) (x6 : Int) : IM Unit :=
  ig (R32 x4) <|
  if x4 = 0 then ((I12_writeRuns_89 k13 x1 x2 x3 x5 x6)) else (ib (I12_writeWord 14) fun _ =>
  (I12_writeRuns_89 k13 x1 x2 x3 x5 x6))
theorem v_N12_writeRuns_77 {n_k13 : Int32 → Int32 → Int32 → Int32 → Int32 → NM Unit} {k13 : Int → Int → Int → Int → Int → IM Unit} (hk13 : ∀ {n0 : Int32} {z0 : Int} (_ : n0 = iI z0) {n1 : Int32} {z1 : Int} (_ : n1 = iI z1) {n2 : Int32} {z2 : Int} (_ : n2 = iI z2) {n3 : Int32} {z3 : Int} (_ : n3 = iI z3) {n4 : Int32} {z4 : Int} (_ : n4 = iI z4), Si (fun x : Unit => x) (n_k13 n0 n1 n2 n3 n4) (k13 z0 z1 z2 z3 z4)) {n_x1 : Int32} {x1 : Int} (e_x1 : n_x1 = iI x1) {n_x2 : Int32} {x2 : Int} (e_x2 : n_x2 = iI x2) {n_x3 : Int32} {x3 : Int} (e_x3 : n_x3 = iI x3) {n_x4 : Int32} {x4 : Int} (e_x4 : n_x4 = iI x4) {n_x5 : Int32} {x5 : Int} (e_x5 : n_x5 = iI x5) {n_x6 : Int32} {x6 : Int} (e_x6 : n_x6 = iI x6) : Si (fun x : Unit => x) (N12_writeRuns_77 n_k13 n_x1 n_x2 n_x3 n_x4 n_x5 n_x6) (I12_writeRuns_77 k13 x1 x2 x3 x4 x5 x6) := by
  subst e_x1
  subst e_x2
  subst e_x3
  subst e_x4
  subst e_x5
  subst e_x6
  unfold N12_writeRuns_77 I12_writeRuns_77
  refine si_ig fun h1 => ?_
  refine si_ite (cEq rfl (eLit 0) ⟨h1, (by decide)⟩) ?_ ?_
  · exact (v_N12_writeRuns_89 hk13 rfl rfl rfl rfl rfl)
  · refine si_b (v_N12_writeWord 14) fun _ => ?_
    exact (v_N12_writeRuns_89 hk13 rfl rfl rfl rfl rfl)
def I12_writeRuns_45_st (k13 : Int → Int → Int → Int → Int → IM Unit) (k45 : Int → Int → Int → Int → Int → Int → IM Unit) (x1 : Int) (x2 : Int) (x3 : Int) (x4 : Int) (x5 : Int) (x6 : Int) : IM Unit :=
  ib (iaI 11 x3) fun v1 =>
  ig (R32 v1) <|
  ig (R32 (x6 + 1)) <|
  if v1 ≤ (x6 + 1) then ((I12_writeRuns_77 k13 x1 x2 x3 x4 x5 x6)) else (ib (I12_isTold x1 x2 (x6 + 1)) fun v2 =>
  ig (R32 v2) <|
  if v2 = 0 then ((I12_writeRuns_77 k13 x1 x2 x3 x4 x5 x6)) else ((k45 x1 x2 x3 x4 x5 (x6 + 1))))
theorem v_N12_writeRuns_45_st {n_k13 : Int32 → Int32 → Int32 → Int32 → Int32 → NM Unit} {k13 : Int → Int → Int → Int → Int → IM Unit} (hk13 : ∀ {n0 : Int32} {z0 : Int} (_ : n0 = iI z0) {n1 : Int32} {z1 : Int} (_ : n1 = iI z1) {n2 : Int32} {z2 : Int} (_ : n2 = iI z2) {n3 : Int32} {z3 : Int} (_ : n3 = iI z3) {n4 : Int32} {z4 : Int} (_ : n4 = iI z4), Si (fun x : Unit => x) (n_k13 n0 n1 n2 n3 n4) (k13 z0 z1 z2 z3 z4)) {n_k45 : Int32 → Int32 → Int32 → Int32 → Int32 → Int32 → NM Unit} {k45 : Int → Int → Int → Int → Int → Int → IM Unit} (hk45 : ∀ {n0 : Int32} {z0 : Int} (_ : n0 = iI z0) {n1 : Int32} {z1 : Int} (_ : n1 = iI z1) {n2 : Int32} {z2 : Int} (_ : n2 = iI z2) {n3 : Int32} {z3 : Int} (_ : n3 = iI z3) {n4 : Int32} {z4 : Int} (_ : n4 = iI z4) {n5 : Int32} {z5 : Int} (_ : n5 = iI z5), Si (fun x : Unit => x) (n_k45 n0 n1 n2 n3 n4 n5) (k45 z0 z1 z2 z3 z4 z5)) {n_x1 : Int32} {x1 : Int} (e_x1 : n_x1 = iI x1) {n_x2 : Int32} {x2 : Int} (e_x2 : n_x2 = iI x2) {n_x3 : Int32} {x3 : Int} (e_x3 : n_x3 = iI x3) {n_x4 : Int32} {x4 : Int} (e_x4 : n_x4 = iI x4) {n_x5 : Int32} {x5 : Int} (e_x5 : n_x5 = iI x5) {n_x6 : Int32} {x6 : Int} (e_x6 : n_x6 = iI x6) : Si (fun x : Unit => x) (N12_writeRuns_45_st n_k13 n_k45 n_x1 n_x2 n_x3 n_x4 n_x5 n_x6) (I12_writeRuns_45_st k13 k45 x1 x2 x3 x4 x5 x6) := by
  subst e_x1
  subst e_x2
  subst e_x3
  subst e_x4
  subst e_x5
  subst e_x6
  unfold N12_writeRuns_45_st I12_writeRuns_45_st
  refine si_b (si_aI rfl) fun v1 => ?_
  refine si_ig fun h1 => ?_
  refine si_ig fun h2 => ?_
  refine si_ite (cLe rfl (eAdd rfl (eLit 1)) ⟨h1, h2⟩) ?_ ?_
  · exact (v_N12_writeRuns_77 hk13 rfl rfl rfl rfl rfl rfl)
  · refine si_b (v_N12_isTold rfl rfl (eAdd rfl (eLit 1))) fun v2 => ?_
    refine si_ig fun h3 => ?_
    refine si_ite (cEq rfl (eLit 0) ⟨h3, (by decide)⟩) ?_ ?_
    · exact (v_N12_writeRuns_77 hk13 rfl rfl rfl rfl rfl rfl)
    · exact (hk45 rfl rfl rfl rfl rfl (eAdd rfl (eLit 1)))
def I12_writeRuns_45 (k13 : Int → Int → Int → Int → Int → IM Unit) : Nat → Int → Int → Int → Int → Int → Int → IM Unit
  | 0 => fun _ _ _ _ _ _ => nof
  | n + 1 => fun x1 x2 x3 x4 x5 x6 => I12_writeRuns_45_st k13 (I12_writeRuns_45 k13 n) x1 x2 x3 x4 x5 x6
theorem v_N12_writeRuns_45 {n_k13 : Int32 → Int32 → Int32 → Int32 → Int32 → NM Unit} {k13 : Int → Int → Int → Int → Int → IM Unit} (hk13 : ∀ {n0 : Int32} {z0 : Int} (_ : n0 = iI z0) {n1 : Int32} {z1 : Int} (_ : n1 = iI z1) {n2 : Int32} {z2 : Int} (_ : n2 = iI z2) {n3 : Int32} {z3 : Int} (_ : n3 = iI z3) {n4 : Int32} {z4 : Int} (_ : n4 = iI z4), Si (fun x : Unit => x) (n_k13 n0 n1 n2 n3 n4) (k13 z0 z1 z2 z3 z4)) : ∀ (n : Nat) {n_x1 : Int32} {x1 : Int} (e_x1 : n_x1 = iI x1) {n_x2 : Int32} {x2 : Int} (e_x2 : n_x2 = iI x2) {n_x3 : Int32} {x3 : Int} (e_x3 : n_x3 = iI x3) {n_x4 : Int32} {x4 : Int} (e_x4 : n_x4 = iI x4) {n_x5 : Int32} {x5 : Int} (e_x5 : n_x5 = iI x5) {n_x6 : Int32} {x6 : Int} (e_x6 : n_x6 = iI x6), Si (fun x : Unit => x) (N12_writeRuns_45 n_k13 n n_x1 n_x2 n_x3 n_x4 n_x5 n_x6) (I12_writeRuns_45 k13 n x1 x2 x3 x4 x5 x6) := by
  intro n
  induction n with
  | zero => intro n_x1 x1 e_x1 n_x2 x2 e_x2 n_x3 x3 e_x3 n_x4 x4 e_x4 n_x5 x5 e_x5 n_x6 x6 e_x6; exact si_nf
  | succ n ih => intro n_x1 x1 e_x1 n_x2 x2 e_x2 n_x3 x3 e_x3 n_x4 x4 e_x4 n_x5 x5 e_x5 n_x6 x6 e_x6; exact v_N12_writeRuns_45_st hk13 (ih) e_x1 e_x2 e_x3 e_x4 e_x5 e_x6
def I12_writeRuns_13_st (k13 : Int → Int → Int → Int → Int → IM Unit) (x1 : Int) (x2 : Int) (x3 : Int) (x4 : Int) (x5 : Int) : IM Unit :=
  ib (iaI 11 x3) fun v1 =>
  ig (R32 v1) <|
  ig (R32 x5) <|
  if v1 ≤ x5 then (ir ()) else (ib (I12_isTold x1 x2 x5) fun v2 =>
  ig (R32 v2) <|
  if v2 = 0 then ((k13 x1 x2 x3 x4 (x5 + 1))) else ((I12_writeRuns_45 k13 LFU x1 x2 x3 x4 x5 x5)))
theorem v_N12_writeRuns_13_st {n_k13 : Int32 → Int32 → Int32 → Int32 → Int32 → NM Unit} {k13 : Int → Int → Int → Int → Int → IM Unit} (hk13 : ∀ {n0 : Int32} {z0 : Int} (_ : n0 = iI z0) {n1 : Int32} {z1 : Int} (_ : n1 = iI z1) {n2 : Int32} {z2 : Int} (_ : n2 = iI z2) {n3 : Int32} {z3 : Int} (_ : n3 = iI z3) {n4 : Int32} {z4 : Int} (_ : n4 = iI z4), Si (fun x : Unit => x) (n_k13 n0 n1 n2 n3 n4) (k13 z0 z1 z2 z3 z4)) {n_x1 : Int32} {x1 : Int} (e_x1 : n_x1 = iI x1) {n_x2 : Int32} {x2 : Int} (e_x2 : n_x2 = iI x2) {n_x3 : Int32} {x3 : Int} (e_x3 : n_x3 = iI x3) {n_x4 : Int32} {x4 : Int} (e_x4 : n_x4 = iI x4) {n_x5 : Int32} {x5 : Int} (e_x5 : n_x5 = iI x5) : Si (fun x : Unit => x) (N12_writeRuns_13_st n_k13 n_x1 n_x2 n_x3 n_x4 n_x5) (I12_writeRuns_13_st k13 x1 x2 x3 x4 x5) := by
  subst e_x1
  subst e_x2
  subst e_x3
  subst e_x4
  subst e_x5
  unfold N12_writeRuns_13_st I12_writeRuns_13_st
  refine si_b (si_aI rfl) fun v1 => ?_
  refine si_ig fun h1 => ?_
  refine si_ig fun h2 => ?_
  refine si_ite (cLe rfl rfl ⟨h1, h2⟩) ?_ ?_
  · exact si_rn
  · refine si_b (v_N12_isTold rfl rfl rfl) fun v2 => ?_
    refine si_ig fun h3 => ?_
    refine si_ite (cEq rfl (eLit 0) ⟨h3, (by decide)⟩) ?_ ?_
    · exact (hk13 rfl rfl rfl rfl (eAdd rfl (eLit 1)))
    · exact (v_N12_writeRuns_45 hk13 LFU rfl rfl rfl rfl rfl rfl)
def I12_writeRuns_13 : Nat → Int → Int → Int → Int → Int → IM Unit
  | 0 => fun _ _ _ _ _ => nof
  | n + 1 => fun x1 x2 x3 x4 x5 => I12_writeRuns_13_st  (I12_writeRuns_13  n) x1 x2 x3 x4 x5
theorem v_N12_writeRuns_13  : ∀ (n : Nat) {n_x1 : Int32} {x1 : Int} (e_x1 : n_x1 = iI x1) {n_x2 : Int32} {x2 : Int} (e_x2 : n_x2 = iI x2) {n_x3 : Int32} {x3 : Int} (e_x3 : n_x3 = iI x3) {n_x4 : Int32} {x4 : Int} (e_x4 : n_x4 = iI x4) {n_x5 : Int32} {x5 : Int} (e_x5 : n_x5 = iI x5), Si (fun x : Unit => x) (N12_writeRuns_13  n n_x1 n_x2 n_x3 n_x4 n_x5) (I12_writeRuns_13  n x1 x2 x3 x4 x5) := by
  intro n
  induction n with
  | zero => intro n_x1 x1 e_x1 n_x2 x2 e_x2 n_x3 x3 e_x3 n_x4 x4 e_x4 n_x5 x5 e_x5; exact si_nf
  | succ n ih => intro n_x1 x1 e_x1 n_x2 x2 e_x2 n_x3 x3 e_x3 n_x4 x4 e_x4 n_x5 x5 e_x5; exact v_N12_writeRuns_13_st  (ih) e_x1 e_x2 e_x3 e_x4 e_x5
def I12_writeRuns (a1 : Int) (a2 : Int) : IM Unit :=
  ib (iaI 16 a1) fun v1 =>
  (I12_writeRuns_13 LFU a1 a2 v1 0 0)
theorem v_N12_writeRuns  {n_a1 : Int32} {a1 : Int} (e_a1 : n_a1 = iI a1) {n_a2 : Int32} {a2 : Int} (e_a2 : n_a2 = iI a2) : Si (fun x : Unit => x) (N12_writeRuns  n_a1 n_a2) (I12_writeRuns  a1 a2) := by
  subst e_a1
  subst e_a2
  unfold N12_writeRuns I12_writeRuns
  refine si_b (si_aI rfl) fun v1 => ?_
  exact (v_N12_writeRuns_13 LFU rfl rfl rfl (eLit 0) (eLit 0))
def I12_countTold_33 (k5 : Int → Int → Int → Int → IM Int) (x1 : Int) (x2 : Int) (x4 : Int) (y0 : Int) (y1 : Int) : IM Int :=
  (k5 x1 x2 (y1 + y0) (x4 + 1))
theorem v_N12_countTold_33 {n_k5 : Int32 → Int32 → Int32 → Int32 → NM Int32} {k5 : Int → Int → Int → Int → IM Int} (hk5 : ∀ {n0 : Int32} {z0 : Int} (_ : n0 = iI z0) {n1 : Int32} {z1 : Int} (_ : n1 = iI z1) {n2 : Int32} {z2 : Int} (_ : n2 = iI z2) {n3 : Int32} {z3 : Int} (_ : n3 = iI z3), Si iI (n_k5 n0 n1 n2 n3) (k5 z0 z1 z2 z3)) {n_x1 : Int32} {x1 : Int} (e_x1 : n_x1 = iI x1) {n_x2 : Int32} {x2 : Int} (e_x2 : n_x2 = iI x2) {n_x4 : Int32} {x4 : Int} (e_x4 : n_x4 = iI x4) {n_y0 : Int32} {y0 : Int} (e_y0 : n_y0 = iI y0) {n_y1 : Int32} {y1 : Int} (e_y1 : n_y1 = iI y1) : Si iI (N12_countTold_33 n_k5 n_x1 n_x2 n_x4 n_y0 n_y1) (I12_countTold_33 k5 x1 x2 x4 y0 y1) := by
  subst e_x1
  subst e_x2
  subst e_x4
  subst e_y0
  subst e_y1
  unfold N12_countTold_33 I12_countTold_33
  exact (hk5 rfl rfl (eAdd rfl rfl) (eAdd rfl (eLit 1)))
def I12_countTold_5_st (k5 : Int → Int → Int → Int → IM Int) (x1 : Int) (x2 : Int) (x3 : Int) (x4 : Int) : IM Int :=
  ib (I12_many x1 x2) fun v1 =>
  ig (R32 v1) <|
  ig (R32 x4) <|
  if v1 ≤ x4 then (ir x3) else (ib (I12_isTold x1 x2 x4) fun v2 =>
  ig (R32 v2) <|
  if v2 = 0 then ((I12_countTold_33 k5 x1 x2 x4 0 x3)) else ((I12_countTold_33 k5 x1 x2 x4 1 x3)))
theorem v_N12_countTold_5_st {n_k5 : Int32 → Int32 → Int32 → Int32 → NM Int32} {k5 : Int → Int → Int → Int → IM Int} (hk5 : ∀ {n0 : Int32} {z0 : Int} (_ : n0 = iI z0) {n1 : Int32} {z1 : Int} (_ : n1 = iI z1) {n2 : Int32} {z2 : Int} (_ : n2 = iI z2) {n3 : Int32} {z3 : Int} (_ : n3 = iI z3), Si iI (n_k5 n0 n1 n2 n3) (k5 z0 z1 z2 z3)) {n_x1 : Int32} {x1 : Int} (e_x1 : n_x1 = iI x1) {n_x2 : Int32} {x2 : Int} (e_x2 : n_x2 = iI x2) {n_x3 : Int32} {x3 : Int} (e_x3 : n_x3 = iI x3) {n_x4 : Int32} {x4 : Int} (e_x4 : n_x4 = iI x4) : Si iI (N12_countTold_5_st n_k5 n_x1 n_x2 n_x3 n_x4) (I12_countTold_5_st k5 x1 x2 x3 x4) := by
  subst e_x1
  subst e_x2
  subst e_x3
  subst e_x4
  unfold N12_countTold_5_st I12_countTold_5_st
  refine si_b (v_N12_many rfl rfl) fun v1 => ?_
  refine si_ig fun h1 => ?_
  refine si_ig fun h2 => ?_
  refine si_ite (cLe rfl rfl ⟨h1, h2⟩) ?_ ?_
  · exact si_re rfl
  · refine si_b (v_N12_isTold rfl rfl rfl) fun v2 => ?_
    refine si_ig fun h3 => ?_
    refine si_ite (cEq rfl (eLit 0) ⟨h3, (by decide)⟩) ?_ ?_
    · exact (v_N12_countTold_33 hk5 rfl rfl rfl (eLit 0) rfl)
    · exact (v_N12_countTold_33 hk5 rfl rfl rfl (eLit 1) rfl)
def I12_countTold_5 : Nat → Int → Int → Int → Int → IM Int
  | 0 => fun _ _ _ _ => nof
  | n + 1 => fun x1 x2 x3 x4 => I12_countTold_5_st  (I12_countTold_5  n) x1 x2 x3 x4
theorem v_N12_countTold_5  : ∀ (n : Nat) {n_x1 : Int32} {x1 : Int} (e_x1 : n_x1 = iI x1) {n_x2 : Int32} {x2 : Int} (e_x2 : n_x2 = iI x2) {n_x3 : Int32} {x3 : Int} (e_x3 : n_x3 = iI x3) {n_x4 : Int32} {x4 : Int} (e_x4 : n_x4 = iI x4), Si iI (N12_countTold_5  n n_x1 n_x2 n_x3 n_x4) (I12_countTold_5  n x1 x2 x3 x4) := by
  intro n
  induction n with
  | zero => intro n_x1 x1 e_x1 n_x2 x2 e_x2 n_x3 x3 e_x3 n_x4 x4 e_x4; exact si_nf
  | succ n ih => intro n_x1 x1 e_x1 n_x2 x2 e_x2 n_x3 x3 e_x3 n_x4 x4 e_x4; exact v_N12_countTold_5_st  (ih) e_x1 e_x2 e_x3 e_x4
def I12_countTold (a1 : Int) (a2 : Int) : IM Int :=
  (I12_countTold_5 LFU a1 a2 0 0)
theorem v_N12_countTold  {n_a1 : Int32} {a1 : Int} (e_a1 : n_a1 = iI a1) {n_a2 : Int32} {a2 : Int} (e_a2 : n_a2 = iI a2) : Si iI (N12_countTold  n_a1 n_a2) (I12_countTold  a1 a2) := by
  subst e_a1
  subst e_a2
  unfold N12_countTold I12_countTold
  exact (v_N12_countTold_5 LFU rfl rfl (eLit 0) (eLit 0))
def I12_writeNote_158 (k101 : Int → Int → Int → IM Unit) (x1 : Int) (x2 : Int) (x3 : Int) : IM Unit :=
  (k101 x1 x2 (x3 + 1))
theorem v_N12_writeNote_158 {n_k101 : Int32 → Int32 → Int32 → NM Unit} {k101 : Int → Int → Int → IM Unit} (hk101 : ∀ {n0 : Int32} {z0 : Int} (_ : n0 = iI z0) {n1 : Int32} {z1 : Int} (_ : n1 = iI z1) {n2 : Int32} {z2 : Int} (_ : n2 = iI z2), Si (fun x : Unit => x) (n_k101 n0 n1 n2) (k101 z0 z1 z2)) {n_x1 : Int32} {x1 : Int} (e_x1 : n_x1 = iI x1) {n_x2 : Int32} {x2 : Int} (e_x2 : n_x2 = iI x2) {n_x3 : Int32} {x3 : Int} (e_x3 : n_x3 = iI x3) : Si (fun x : Unit => x) (N12_writeNote_158 n_k101 n_x1 n_x2 n_x3) (I12_writeNote_158 k101 x1 x2 x3) := by
  subst e_x1
  subst e_x2
  subst e_x3
  unfold N12_writeNote_158 I12_writeNote_158
  exact (hk101 rfl rfl (eAdd rfl (eLit 1)))
def I12_writeNote_134 (k101 : Int → Int → Int → IM Unit) (x1 : Int) (x3 : Int) : IM Unit :=
  ib (iaI 16 x1) fun v1 =>
  ib (iaI 18 ((x1 * 400) + x3)) fun v2 =>
  ib (I12_writeName v1 v2) fun _ =>
  (I12_writeNote_158 k101 x1 1 x3)
theorem v_N12_writeNote_134 {n_k101 : Int32 → Int32 → Int32 → NM Unit} {k101 : Int → Int → Int → IM Unit} (hk101 : ∀ {n0 : Int32} {z0 : Int} (_ : n0 = iI z0) {n1 : Int32} {z1 : Int} (_ : n1 = iI z1) {n2 : Int32} {z2 : Int} (_ : n2 = iI z2), Si (fun x : Unit => x) (n_k101 n0 n1 n2) (k101 z0 z1 z2)) {n_x1 : Int32} {x1 : Int} (e_x1 : n_x1 = iI x1) {n_x3 : Int32} {x3 : Int} (e_x3 : n_x3 = iI x3) : Si (fun x : Unit => x) (N12_writeNote_134 n_k101 n_x1 n_x3) (I12_writeNote_134 k101 x1 x3) := by
  subst e_x1
  subst e_x3
  unfold N12_writeNote_134 I12_writeNote_134
  refine si_b (si_aI rfl) fun v1 => ?_
  refine si_b (si_aI (eAdd (eMul rfl (eLit 400)) rfl)) fun v2 => ?_
  refine si_b (v_N12_writeName rfl rfl) fun _ => ?_
  exact (v_N12_writeNote_158 hk101 rfl (eLit 1) rfl)
def I12_writeNote_101_st (k101 : Int → Int → Int → IM Unit) (x1 : Int) (x2 : Int) (x3 : Int) : IM Unit :=
  ib (iaI 17 x1) fun v1 =>
  ig (R32 v1) <|
  ig (R32 x3) <|
  if v1 ≤ x3 then (ir ()) else (ib (iaZ 41 x3) fun v2 =>
  ig (R32 v2) <|
  if v2 = 0 then (ig (R32 x2) <|
  if x2 = 0 then ((I12_writeNote_134 k101 x1 x3)) else (ib (I12_writeWord 14) fun _ =>
  (I12_writeNote_134 k101 x1 x3))) else ((I12_writeNote_158 k101 x1 x2 x3)))
theorem v_N12_writeNote_101_st {n_k101 : Int32 → Int32 → Int32 → NM Unit} {k101 : Int → Int → Int → IM Unit} (hk101 : ∀ {n0 : Int32} {z0 : Int} (_ : n0 = iI z0) {n1 : Int32} {z1 : Int} (_ : n1 = iI z1) {n2 : Int32} {z2 : Int} (_ : n2 = iI z2), Si (fun x : Unit => x) (n_k101 n0 n1 n2) (k101 z0 z1 z2)) {n_x1 : Int32} {x1 : Int} (e_x1 : n_x1 = iI x1) {n_x2 : Int32} {x2 : Int} (e_x2 : n_x2 = iI x2) {n_x3 : Int32} {x3 : Int} (e_x3 : n_x3 = iI x3) : Si (fun x : Unit => x) (N12_writeNote_101_st n_k101 n_x1 n_x2 n_x3) (I12_writeNote_101_st k101 x1 x2 x3) := by
  subst e_x1
  subst e_x2
  subst e_x3
  unfold N12_writeNote_101_st I12_writeNote_101_st
  refine si_b (si_aI rfl) fun v1 => ?_
  refine si_ig fun h1 => ?_
  refine si_ig fun h2 => ?_
  refine si_ite (cLe rfl rfl ⟨h1, h2⟩) ?_ ?_
  · exact si_rn
  · refine si_b (si_aZ rfl) fun v2 => ?_
    refine si_ig fun h3 => ?_
    refine si_ite (cEq rfl (eLit 0) ⟨h3, (by decide)⟩) ?_ ?_
    · refine si_ig fun h4 => ?_
      refine si_ite (cEq rfl (eLit 0) ⟨h4, (by decide)⟩) ?_ ?_
      · exact (v_N12_writeNote_134 hk101 rfl rfl)
      · refine si_b (v_N12_writeWord 14) fun _ => ?_
        exact (v_N12_writeNote_134 hk101 rfl rfl)
    · exact (v_N12_writeNote_158 hk101 rfl rfl rfl)
def I12_writeNote_101 : Nat → Int → Int → Int → IM Unit
  | 0 => fun _ _ _ => nof
  | n + 1 => fun x1 x2 x3 => I12_writeNote_101_st  (I12_writeNote_101  n) x1 x2 x3
theorem v_N12_writeNote_101  : ∀ (n : Nat) {n_x1 : Int32} {x1 : Int} (e_x1 : n_x1 = iI x1) {n_x2 : Int32} {x2 : Int} (e_x2 : n_x2 = iI x2) {n_x3 : Int32} {x3 : Int} (e_x3 : n_x3 = iI x3), Si (fun x : Unit => x) (N12_writeNote_101  n n_x1 n_x2 n_x3) (I12_writeNote_101  n x1 x2 x3) := by
  intro n
  induction n with
  | zero => intro n_x1 x1 e_x1 n_x2 x2 e_x2 n_x3 x3 e_x3; exact si_nf
  | succ n ih => intro n_x1 x1 e_x1 n_x2 x2 e_x2 n_x3 x3 e_x3; exact v_N12_writeNote_101_st  (ih) e_x1 e_x2 e_x3
def I12_writeNote_94 (x1 : Int) (y0 : Nat) : IM Unit :=
  ib (I12_writeWord y0) fun _ =>
  (I12_writeNote_101 LFU x1 0 0)
theorem v_N12_writeNote_94  {n_x1 : Int32} {x1 : Int} (e_x1 : n_x1 = iI x1) (y0 : Nat) : Si (fun x : Unit => x) (N12_writeNote_94  n_x1 y0) (I12_writeNote_94  x1 y0) := by
  subst e_x1
  unfold N12_writeNote_94 I12_writeNote_94
  refine si_b (v_N12_writeWord y0) fun _ => ?_
  exact (v_N12_writeNote_101 LFU rfl (eLit 0) (eLit 0))
def I12_writeNote_67 (x1 : Int) : IM Unit :=
  ib (I12_countTold x1 4) fun v1 =>
  ig (R32 v1) <|
  if v1 = 0 then (ir ()) else (ib (igI 37) fun v2 =>
  ig (R32 v2) <|
  if v2 ≤ 0 then ((I12_writeNote_94 x1 18)) else ((I12_writeNote_94 x1 17)))
theorem v_N12_writeNote_67  {n_x1 : Int32} {x1 : Int} (e_x1 : n_x1 = iI x1) : Si (fun x : Unit => x) (N12_writeNote_67  n_x1) (I12_writeNote_67  x1) := by
  subst e_x1
  unfold N12_writeNote_67 I12_writeNote_67
  refine si_b (v_N12_countTold rfl (eLit 4)) fun v1 => ?_
  refine si_ig fun h1 => ?_
  refine si_ite (cEq rfl (eLit 0) ⟨h1, (by decide)⟩) ?_ ?_
  · exact si_rn
  · refine si_b si_gI fun v2 => ?_
    refine si_ig fun h2 => ?_
    refine si_ite (cLe rfl (eLit 0) ⟨h2, (by decide)⟩) ?_ ?_
    · exact (v_N12_writeNote_94 rfl 18)
    · exact (v_N12_writeNote_94 rfl 17)
def I12_writeNote_58 (x1 : Int) (y0 : Nat) : IM Unit :=
  ib (I12_writeWord y0) fun _ =>
  ib (I12_writeRuns x1 3) fun _ =>
  (I12_writeNote_67 x1)
theorem v_N12_writeNote_58  {n_x1 : Int32} {x1 : Int} (e_x1 : n_x1 = iI x1) (y0 : Nat) : Si (fun x : Unit => x) (N12_writeNote_58  n_x1 y0) (I12_writeNote_58  x1 y0) := by
  subst e_x1
  unfold N12_writeNote_58 I12_writeNote_58
  refine si_b (v_N12_writeWord y0) fun _ => ?_
  refine si_b (v_N12_writeRuns rfl (eLit 3)) fun _ => ?_
  exact (v_N12_writeNote_67 rfl)
def I12_writeNote_32 (x1 : Int) : IM Unit :=
  ib (I12_countTold x1 3) fun v1 =>
  ig (R32 v1) <|
  if v1 ≤ 0 then ((I12_writeNote_67 x1)) else (ib (igI 37) fun v2 =>
  ig (R32 v2) <|
  if v2 ≤ 0 then ((I12_writeNote_58 x1 16)) else ((I12_writeNote_58 x1 15)))
theorem v_N12_writeNote_32  {n_x1 : Int32} {x1 : Int} (e_x1 : n_x1 = iI x1) : Si (fun x : Unit => x) (N12_writeNote_32  n_x1) (I12_writeNote_32  x1) := by
  subst e_x1
  unfold N12_writeNote_32 I12_writeNote_32
  refine si_b (v_N12_countTold rfl (eLit 3)) fun v1 => ?_
  refine si_ig fun h1 => ?_
  refine si_ite (cLe rfl (eLit 0) ⟨h1, (by decide)⟩) ?_ ?_
  · exact (v_N12_writeNote_67 rfl)
  · refine si_b si_gI fun v2 => ?_
    refine si_ig fun h2 => ?_
    refine si_ite (cLe rfl (eLit 0) ⟨h2, (by decide)⟩) ?_ ?_
    · exact (v_N12_writeNote_58 rfl 16)
    · exact (v_N12_writeNote_58 rfl 15)
def I12_writeNote (a1 : Int) : IM Unit :=
  ib (I12_look a1) fun _ =>
  ib (ipI 37 0) fun _ =>
  ib (I12_countTold a1 2) fun v1 =>
  ig (R32 v1) <|
  if v1 ≤ 0 then ((I12_writeNote_32 a1)) else (ib (I12_writeWord 13) fun _ =>
  ib (I12_writeRuns a1 2) fun _ =>
  (I12_writeNote_32 a1))
theorem v_N12_writeNote  {n_a1 : Int32} {a1 : Int} (e_a1 : n_a1 = iI a1) : Si (fun x : Unit => x) (N12_writeNote  n_a1) (I12_writeNote  a1) := by
  subst e_a1
  unfold N12_writeNote I12_writeNote
  refine si_b (v_N12_look rfl) fun _ => ?_
  refine si_b (si_pI (eLit 0)) fun _ => ?_
  refine si_b (v_N12_countTold rfl (eLit 2)) fun v1 => ?_
  refine si_ig fun h1 => ?_
  refine si_ite (cLe rfl (eLit 0) ⟨h1, (by decide)⟩) ?_ ?_
  · exact (v_N12_writeNote_32 rfl)
  · refine si_b (v_N12_writeWord 13) fun _ => ?_
    refine si_b (v_N12_writeRuns rfl (eLit 2)) fun _ => ?_
    exact (v_N12_writeNote_32 rfl)
def I12_feed_75 (k22 : Int → Int → Int → Int → Int → Int → IM Int) (x1 : Int) (x2 : Int) (x3 : Int) (x4 : Int) (x5 : Int) (x6 : Int) (y0 : Int) : IM Int :=
  ib (igI 1) fun v1 =>
  ib (irI x6 4) fun v2 =>
  ib (isI 0 v1 (iAnd (iShr y0 (24 - (8 * v2))) 255)) fun _ =>
  ib (igI 1) fun v3 =>
  ib (ipI 1 (v3 + 1)) fun _ =>
  (k22 x1 x2 x3 x4 x5 (x6 + 1))
theorem v_N12_feed_75 {n_k22 : Int32 → Int32 → Int32 → Int32 → Int32 → Int32 → NM Int32} {k22 : Int → Int → Int → Int → Int → Int → IM Int} (hk22 : ∀ {n0 : Int32} {z0 : Int} (_ : n0 = iI z0) {n1 : Int32} {z1 : Int} (_ : n1 = iI z1) {n2 : Int32} {z2 : Int} (_ : n2 = iI z2) {n3 : Int32} {z3 : Int} (_ : n3 = iI z3) {n4 : Int32} {z4 : Int} (_ : n4 = iI z4) {n5 : Int32} {z5 : Int} (_ : n5 = iI z5), Si iI (n_k22 n0 n1 n2 n3 n4 n5) (k22 z0 z1 z2 z3 z4 z5)) {n_x1 : Int32} {x1 : Int} (e_x1 : n_x1 = iI x1) {n_x2 : Int32} {x2 : Int} (e_x2 : n_x2 = iI x2) {n_x3 : Int32} {x3 : Int} (e_x3 : n_x3 = iI x3) {n_x4 : Int32} {x4 : Int} (e_x4 : n_x4 = iI x4) {n_x5 : Int32} {x5 : Int} (e_x5 : n_x5 = iI x5) {n_x6 : Int32} {x6 : Int} (e_x6 : n_x6 = iI x6) {n_y0 : Int32} {y0 : Int} (e_y0 : n_y0 = iI y0) : Si iI (N12_feed_75 n_k22 n_x1 n_x2 n_x3 n_x4 n_x5 n_x6 n_y0) (I12_feed_75 k22 x1 x2 x3 x4 x5 x6 y0) := by
  subst e_x1
  subst e_x2
  subst e_x3
  subst e_x4
  subst e_x5
  subst e_x6
  subst e_y0
  unfold N12_feed_75 I12_feed_75
  refine si_b si_gI fun v1 => ?_
  refine si_b (si_rI rfl (eLit 4)) fun v2 => ?_
  refine si_b (si_sI rfl (eAnd (eShr rfl (eSub (eLit 24) (eMul (eLit 8) rfl))) (eLit 255))) fun _ => ?_
  refine si_b si_gI fun v3 => ?_
  refine si_b (si_pI (eAdd rfl (eLit 1))) fun _ => ?_
  exact (hk22 rfl rfl rfl rfl rfl (eAdd rfl (eLit 1)))
def I12_feed_119 : IM Int :=
  ib (igI 1) fun v1 =>
  ib (I12_fine v1) fun v2 =>
  ir v2
theorem v_N12_feed_119  : Si iI (N12_feed_119  ) (I12_feed_119  ) := by
  unfold N12_feed_119 I12_feed_119
  refine si_b si_gI fun v1 => ?_
  refine si_b (v_N12_fine rfl) fun v2 => ?_
  exact si_re rfl
def I12_feed_22_st (k22 : Int → Int → Int → Int → Int → Int → IM Int) (x1 : Int) (x2 : Int) (x3 : Int) (x4 : Int) (x5 : Int) (x6 : Int) : IM Int :=
  ig (R32 x6) <|
  if 20 ≤ x6 then (I12_feed_119) else (if 4 ≤ x6 then (if 8 ≤ x6 then (if 12 ≤ x6 then (if 16 ≤ x6 then ((I12_feed_75 k22 x1 x2 x3 x4 x5 x6 x5)) else ((I12_feed_75 k22 x1 x2 x3 x4 x5 x6 x4))) else ((I12_feed_75 k22 x1 x2 x3 x4 x5 x6 x3))) else ((I12_feed_75 k22 x1 x2 x3 x4 x5 x6 x2))) else ((I12_feed_75 k22 x1 x2 x3 x4 x5 x6 x1)))
theorem v_N12_feed_22_st {n_k22 : Int32 → Int32 → Int32 → Int32 → Int32 → Int32 → NM Int32} {k22 : Int → Int → Int → Int → Int → Int → IM Int} (hk22 : ∀ {n0 : Int32} {z0 : Int} (_ : n0 = iI z0) {n1 : Int32} {z1 : Int} (_ : n1 = iI z1) {n2 : Int32} {z2 : Int} (_ : n2 = iI z2) {n3 : Int32} {z3 : Int} (_ : n3 = iI z3) {n4 : Int32} {z4 : Int} (_ : n4 = iI z4) {n5 : Int32} {z5 : Int} (_ : n5 = iI z5), Si iI (n_k22 n0 n1 n2 n3 n4 n5) (k22 z0 z1 z2 z3 z4 z5)) {n_x1 : Int32} {x1 : Int} (e_x1 : n_x1 = iI x1) {n_x2 : Int32} {x2 : Int} (e_x2 : n_x2 = iI x2) {n_x3 : Int32} {x3 : Int} (e_x3 : n_x3 = iI x3) {n_x4 : Int32} {x4 : Int} (e_x4 : n_x4 = iI x4) {n_x5 : Int32} {x5 : Int} (e_x5 : n_x5 = iI x5) {n_x6 : Int32} {x6 : Int} (e_x6 : n_x6 = iI x6) : Si iI (N12_feed_22_st n_k22 n_x1 n_x2 n_x3 n_x4 n_x5 n_x6) (I12_feed_22_st k22 x1 x2 x3 x4 x5 x6) := by
  subst e_x1
  subst e_x2
  subst e_x3
  subst e_x4
  subst e_x5
  subst e_x6
  unfold N12_feed_22_st I12_feed_22_st
  refine si_ig fun h1 => ?_
  refine si_ite (cLe (eLit 20) rfl ⟨(by decide), h1⟩) ?_ ?_
  · exact v_N12_feed_119
  · refine si_ite (cLe (eLit 4) rfl ⟨(by decide), h1⟩) ?_ ?_
    · refine si_ite (cLe (eLit 8) rfl ⟨(by decide), h1⟩) ?_ ?_
      · refine si_ite (cLe (eLit 12) rfl ⟨(by decide), h1⟩) ?_ ?_
        · refine si_ite (cLe (eLit 16) rfl ⟨(by decide), h1⟩) ?_ ?_
          · exact (v_N12_feed_75 hk22 rfl rfl rfl rfl rfl rfl rfl)
          · exact (v_N12_feed_75 hk22 rfl rfl rfl rfl rfl rfl rfl)
        · exact (v_N12_feed_75 hk22 rfl rfl rfl rfl rfl rfl rfl)
      · exact (v_N12_feed_75 hk22 rfl rfl rfl rfl rfl rfl rfl)
    · exact (v_N12_feed_75 hk22 rfl rfl rfl rfl rfl rfl rfl)
def I12_feed_22 : Nat → Int → Int → Int → Int → Int → Int → IM Int
  | 0 => fun _ _ _ _ _ _ => nof
  | n + 1 => fun x1 x2 x3 x4 x5 x6 => I12_feed_22_st  (I12_feed_22  n) x1 x2 x3 x4 x5 x6
theorem v_N12_feed_22  : ∀ (n : Nat) {n_x1 : Int32} {x1 : Int} (e_x1 : n_x1 = iI x1) {n_x2 : Int32} {x2 : Int} (e_x2 : n_x2 = iI x2) {n_x3 : Int32} {x3 : Int} (e_x3 : n_x3 = iI x3) {n_x4 : Int32} {x4 : Int} (e_x4 : n_x4 = iI x4) {n_x5 : Int32} {x5 : Int} (e_x5 : n_x5 = iI x5) {n_x6 : Int32} {x6 : Int} (e_x6 : n_x6 = iI x6), Si iI (N12_feed_22  n n_x1 n_x2 n_x3 n_x4 n_x5 n_x6) (I12_feed_22  n x1 x2 x3 x4 x5 x6) := by
  intro n
  induction n with
  | zero => intro n_x1 x1 e_x1 n_x2 x2 e_x2 n_x3 x3 e_x3 n_x4 x4 e_x4 n_x5 x5 e_x5 n_x6 x6 e_x6; exact si_nf
  | succ n ih => intro n_x1 x1 e_x1 n_x2 x2 e_x2 n_x3 x3 e_x3 n_x4 x4 e_x4 n_x5 x5 e_x5 n_x6 x6 e_x6; exact v_N12_feed_22_st  (ih) e_x1 e_x2 e_x3 e_x4 e_x5 e_x6
def I12_feed (a1 : Int) (a2 : Int) (a3 : Int) (a4 : Int) (a5 : Int) : IM Int :=
  ib (igI 1) fun v1 =>
  ig (R32 (v1 + 20)) <|
  if (v1 + 20) ≤ 120 then ((I12_feed_22 LFU a1 a2 a3 a4 a5 0)) else (ib (I12_no 9) fun v2 =>
  ir v2)
theorem v_N12_feed  {n_a1 : Int32} {a1 : Int} (e_a1 : n_a1 = iI a1) {n_a2 : Int32} {a2 : Int} (e_a2 : n_a2 = iI a2) {n_a3 : Int32} {a3 : Int} (e_a3 : n_a3 = iI a3) {n_a4 : Int32} {a4 : Int} (e_a4 : n_a4 = iI a4) {n_a5 : Int32} {a5 : Int} (e_a5 : n_a5 = iI a5) : Si iI (N12_feed  n_a1 n_a2 n_a3 n_a4 n_a5) (I12_feed  a1 a2 a3 a4 a5) := by
  subst e_a1
  subst e_a2
  subst e_a3
  subst e_a4
  subst e_a5
  unfold N12_feed I12_feed
  refine si_b si_gI fun v1 => ?_
  refine si_ig fun h1 => ?_
  refine si_ite (cLe (eAdd rfl (eLit 20)) (eLit 120) ⟨h1, (by decide)⟩) ?_ ?_
  · exact (v_N12_feed_22 LFU rfl rfl rfl rfl rfl (eLit 0))
  · refine si_b (v_N12_no (eLit 9)) fun v2 => ?_
    exact si_re rfl
def I12_end (a1 : Int) : IM Int :=
  ib (igI 1) fun v1 =>
  ib (I12_isIn a1 0 v1) fun v2 =>
  ig (R32 v2) <|
  if v2 = 0 then (ib (I12_no 3) fun v3 =>
  ir v3) else (ib (ipI 1 a1) fun _ =>
  ib (I12_fine a1) fun v4 =>
  ir v4)
theorem v_N12_end  {n_a1 : Int32} {a1 : Int} (e_a1 : n_a1 = iI a1) : Si iI (N12_end  n_a1) (I12_end  a1) := by
  subst e_a1
  unfold N12_end I12_end
  refine si_b si_gI fun v1 => ?_
  refine si_b (v_N12_isIn rfl (eLit 0) rfl) fun v2 => ?_
  refine si_ig fun h1 => ?_
  refine si_ite (cEq rfl (eLit 0) ⟨h1, (by decide)⟩) ?_ ?_
  · refine si_b (v_N12_no (eLit 3)) fun v3 => ?_
    exact si_re rfl
  · refine si_b (si_pI rfl) fun _ => ?_
    refine si_b (v_N12_fine rfl) fun v4 => ?_
    exact si_re rfl
def I12_book_166 (k110 : Int → Int → IM Int) (k125 : Int → Int → Int → IM Int) (x1 : Int) (x2 : Int) (x3 : Int) (y0 : Int) (y1 : Int) (y2 : Int) : IM Int :=
  ib (I12_add y2 y1 y0) fun _ =>
  (k125 x1 x2 (x3 + 1))
theorem v_N12_book_166 {n_k110 : Int32 → Int32 → NM Int32} {k110 : Int → Int → IM Int} (hk110 : ∀ {n0 : Int32} {z0 : Int} (_ : n0 = iI z0) {n1 : Int32} {z1 : Int} (_ : n1 = iI z1), Si iI (n_k110 n0 n1) (k110 z0 z1)) {n_k125 : Int32 → Int32 → Int32 → NM Int32} {k125 : Int → Int → Int → IM Int} (hk125 : ∀ {n0 : Int32} {z0 : Int} (_ : n0 = iI z0) {n1 : Int32} {z1 : Int} (_ : n1 = iI z1) {n2 : Int32} {z2 : Int} (_ : n2 = iI z2), Si iI (n_k125 n0 n1 n2) (k125 z0 z1 z2)) {n_x1 : Int32} {x1 : Int} (e_x1 : n_x1 = iI x1) {n_x2 : Int32} {x2 : Int} (e_x2 : n_x2 = iI x2) {n_x3 : Int32} {x3 : Int} (e_x3 : n_x3 = iI x3) {n_y0 : Int32} {y0 : Int} (e_y0 : n_y0 = iI y0) {n_y1 : Int32} {y1 : Int} (e_y1 : n_y1 = iI y1) {n_y2 : Int32} {y2 : Int} (e_y2 : n_y2 = iI y2) : Si iI (N12_book_166 n_k110 n_k125 n_x1 n_x2 n_x3 n_y0 n_y1 n_y2) (I12_book_166 k110 k125 x1 x2 x3 y0 y1 y2) := by
  subst e_x1
  subst e_x2
  subst e_x3
  subst e_y0
  subst e_y1
  subst e_y2
  unfold N12_book_166 I12_book_166
  refine si_b (v_N12_add rfl rfl rfl) fun _ => ?_
  exact (hk125 rfl rfl (eAdd rfl (eLit 1)))
def I12_book_175 (k110 : Int → Int → IM Int) (x1 : Int) (x2 : Int) : IM Int :=
  (k110 x1 (x2 + 1))
theorem v_N12_book_175 {n_k110 : Int32 → Int32 → NM Int32} {k110 : Int → Int → IM Int} (hk110 : ∀ {n0 : Int32} {z0 : Int} (_ : n0 = iI z0) {n1 : Int32} {z1 : Int} (_ : n1 = iI z1), Si iI (n_k110 n0 n1) (k110 z0 z1)) {n_x1 : Int32} {x1 : Int} (e_x1 : n_x1 = iI x1) {n_x2 : Int32} {x2 : Int} (e_x2 : n_x2 = iI x2) : Si iI (N12_book_175 n_k110 n_x1 n_x2) (I12_book_175 k110 x1 x2) := by
  subst e_x1
  subst e_x2
  unfold N12_book_175 I12_book_175
  exact (hk110 rfl (eAdd rfl (eLit 1)))
def I12_book_125_st (k110 : Int → Int → IM Int) (k125 : Int → Int → Int → IM Int) (x1 : Int) (x2 : Int) (x3 : Int) : IM Int :=
  ib (iaI 27 x2) fun v1 =>
  ig (R32 v1) <|
  ig (R32 x3) <|
  if v1 < x3 then ((I12_book_175 k110 x1 x2)) else (ib (iaI 26 x2) fun v2 =>
  ib (irI (x3 - v2) 2) fun v3 =>
  ig (R32 v3) <|
  if v3 = 0 then (ib (iaI 29 x2) fun v4 =>
  (I12_book_166 k110 k125 x1 x2 x3 v4 x3 x1)) else (ib (iaI 30 x2) fun v5 =>
  (I12_book_166 k110 k125 x1 x2 x3 v5 x3 x1)))
theorem v_N12_book_125_st {n_k110 : Int32 → Int32 → NM Int32} {k110 : Int → Int → IM Int} (hk110 : ∀ {n0 : Int32} {z0 : Int} (_ : n0 = iI z0) {n1 : Int32} {z1 : Int} (_ : n1 = iI z1), Si iI (n_k110 n0 n1) (k110 z0 z1)) {n_k125 : Int32 → Int32 → Int32 → NM Int32} {k125 : Int → Int → Int → IM Int} (hk125 : ∀ {n0 : Int32} {z0 : Int} (_ : n0 = iI z0) {n1 : Int32} {z1 : Int} (_ : n1 = iI z1) {n2 : Int32} {z2 : Int} (_ : n2 = iI z2), Si iI (n_k125 n0 n1 n2) (k125 z0 z1 z2)) {n_x1 : Int32} {x1 : Int} (e_x1 : n_x1 = iI x1) {n_x2 : Int32} {x2 : Int} (e_x2 : n_x2 = iI x2) {n_x3 : Int32} {x3 : Int} (e_x3 : n_x3 = iI x3) : Si iI (N12_book_125_st n_k110 n_k125 n_x1 n_x2 n_x3) (I12_book_125_st k110 k125 x1 x2 x3) := by
  subst e_x1
  subst e_x2
  subst e_x3
  unfold N12_book_125_st I12_book_125_st
  refine si_b (si_aI rfl) fun v1 => ?_
  refine si_ig fun h1 => ?_
  refine si_ig fun h2 => ?_
  refine si_ite (cLt rfl rfl ⟨h1, h2⟩) ?_ ?_
  · exact (v_N12_book_175 hk110 rfl rfl)
  · refine si_b (si_aI rfl) fun v2 => ?_
    refine si_b (si_rI (eSub rfl rfl) (eLit 2)) fun v3 => ?_
    refine si_ig fun h3 => ?_
    refine si_ite (cEq rfl (eLit 0) ⟨h3, (by decide)⟩) ?_ ?_
    · refine si_b (si_aI rfl) fun v4 => ?_
      exact (v_N12_book_166 hk110 hk125 rfl rfl rfl rfl rfl rfl)
    · refine si_b (si_aI rfl) fun v5 => ?_
      exact (v_N12_book_166 hk110 hk125 rfl rfl rfl rfl rfl rfl)
def I12_book_125 (k110 : Int → Int → IM Int) : Nat → Int → Int → Int → IM Int
  | 0 => fun _ _ _ => nof
  | n + 1 => fun x1 x2 x3 => I12_book_125_st k110 (I12_book_125 k110 n) x1 x2 x3
theorem v_N12_book_125 {n_k110 : Int32 → Int32 → NM Int32} {k110 : Int → Int → IM Int} (hk110 : ∀ {n0 : Int32} {z0 : Int} (_ : n0 = iI z0) {n1 : Int32} {z1 : Int} (_ : n1 = iI z1), Si iI (n_k110 n0 n1) (k110 z0 z1)) : ∀ (n : Nat) {n_x1 : Int32} {x1 : Int} (e_x1 : n_x1 = iI x1) {n_x2 : Int32} {x2 : Int} (e_x2 : n_x2 = iI x2) {n_x3 : Int32} {x3 : Int} (e_x3 : n_x3 = iI x3), Si iI (N12_book_125 n_k110 n n_x1 n_x2 n_x3) (I12_book_125 k110 n x1 x2 x3) := by
  intro n
  induction n with
  | zero => intro n_x1 x1 e_x1 n_x2 x2 e_x2 n_x3 x3 e_x3; exact si_nf
  | succ n ih => intro n_x1 x1 e_x1 n_x2 x2 e_x2 n_x3 x3 e_x3; exact v_N12_book_125_st hk110 (ih) e_x1 e_x2 e_x3
def I12_book_203 (x1 : Int) : IM Int :=
  ib (I12_isMade x1) fun v1 =>
  ir v1
theorem v_N12_book_203  {n_x1 : Int32} {x1 : Int} (e_x1 : n_x1 = iI x1) : Si iI (N12_book_203  n_x1) (I12_book_203  x1) := by
  subst e_x1
  unfold N12_book_203 I12_book_203
  refine si_b (v_N12_isMade rfl) fun v1 => ?_
  exact si_re rfl
def I12_book_183_st (k183 : Int → Int → IM Int) (x1 : Int) (x2 : Int) : IM Int :=
  ib (igI 25) fun v1 =>
  ig (R32 v1) <|
  ig (R32 x2) <|
  if v1 ≤ x2 then ((I12_book_203 x1)) else (ib (I12_apply x1 x2) fun _ =>
  (k183 x1 (x2 + 1)))
theorem v_N12_book_183_st {n_k183 : Int32 → Int32 → NM Int32} {k183 : Int → Int → IM Int} (hk183 : ∀ {n0 : Int32} {z0 : Int} (_ : n0 = iI z0) {n1 : Int32} {z1 : Int} (_ : n1 = iI z1), Si iI (n_k183 n0 n1) (k183 z0 z1)) {n_x1 : Int32} {x1 : Int} (e_x1 : n_x1 = iI x1) {n_x2 : Int32} {x2 : Int} (e_x2 : n_x2 = iI x2) : Si iI (N12_book_183_st n_k183 n_x1 n_x2) (I12_book_183_st k183 x1 x2) := by
  subst e_x1
  subst e_x2
  unfold N12_book_183_st I12_book_183_st
  refine si_b si_gI fun v1 => ?_
  refine si_ig fun h1 => ?_
  refine si_ig fun h2 => ?_
  refine si_ite (cLe rfl rfl ⟨h1, h2⟩) ?_ ?_
  · exact (v_N12_book_203 rfl)
  · refine si_b (v_N12_apply rfl rfl) fun _ => ?_
    exact (hk183 rfl (eAdd rfl (eLit 1)))
def I12_book_183 : Nat → Int → Int → IM Int
  | 0 => fun _ _ => nof
  | n + 1 => fun x1 x2 => I12_book_183_st  (I12_book_183  n) x1 x2
theorem v_N12_book_183  : ∀ (n : Nat) {n_x1 : Int32} {x1 : Int} (e_x1 : n_x1 = iI x1) {n_x2 : Int32} {x2 : Int} (e_x2 : n_x2 = iI x2), Si iI (N12_book_183  n n_x1 n_x2) (I12_book_183  n x1 x2) := by
  intro n
  induction n with
  | zero => intro n_x1 x1 e_x1 n_x2 x2 e_x2; exact si_nf
  | succ n ih => intro n_x1 x1 e_x1 n_x2 x2 e_x2; exact v_N12_book_183_st  (ih) e_x1 e_x2
def I12_book_181 (x1 : Int) : IM Int :=
  (I12_book_183 LFU x1 0)
theorem v_N12_book_181  {n_x1 : Int32} {x1 : Int} (e_x1 : n_x1 = iI x1) : Si iI (N12_book_181  n_x1) (I12_book_181  x1) := by
  subst e_x1
  unfold N12_book_181 I12_book_181
  exact (v_N12_book_183 LFU rfl (eLit 0))
def I12_book_110_st (k110 : Int → Int → IM Int) (x1 : Int) (x2 : Int) : IM Int :=
  ib (igI 24) fun v1 =>
  ig (R32 v1) <|
  ig (R32 x2) <|
  if v1 ≤ x2 then ((I12_book_181 x1)) else (ib (iaI 26 x2) fun v2 =>
  (I12_book_125 k110 LFU x1 x2 v2))
theorem v_N12_book_110_st {n_k110 : Int32 → Int32 → NM Int32} {k110 : Int → Int → IM Int} (hk110 : ∀ {n0 : Int32} {z0 : Int} (_ : n0 = iI z0) {n1 : Int32} {z1 : Int} (_ : n1 = iI z1), Si iI (n_k110 n0 n1) (k110 z0 z1)) {n_x1 : Int32} {x1 : Int} (e_x1 : n_x1 = iI x1) {n_x2 : Int32} {x2 : Int} (e_x2 : n_x2 = iI x2) : Si iI (N12_book_110_st n_k110 n_x1 n_x2) (I12_book_110_st k110 x1 x2) := by
  subst e_x1
  subst e_x2
  unfold N12_book_110_st I12_book_110_st
  refine si_b si_gI fun v1 => ?_
  refine si_ig fun h1 => ?_
  refine si_ig fun h2 => ?_
  refine si_ite (cLe rfl rfl ⟨h1, h2⟩) ?_ ?_
  · exact (v_N12_book_181 rfl)
  · refine si_b (si_aI rfl) fun v2 => ?_
    exact (v_N12_book_125 hk110 LFU rfl rfl rfl)
def I12_book_110 : Nat → Int → Int → IM Int
  | 0 => fun _ _ => nof
  | n + 1 => fun x1 x2 => I12_book_110_st  (I12_book_110  n) x1 x2
theorem v_N12_book_110  : ∀ (n : Nat) {n_x1 : Int32} {x1 : Int} (e_x1 : n_x1 = iI x1) {n_x2 : Int32} {x2 : Int} (e_x2 : n_x2 = iI x2), Si iI (N12_book_110  n n_x1 n_x2) (I12_book_110  n x1 x2) := by
  intro n
  induction n with
  | zero => intro n_x1 x1 e_x1 n_x2 x2 e_x2; exact si_nf
  | succ n ih => intro n_x1 x1 e_x1 n_x2 x2 e_x2; exact v_N12_book_110_st  (ih) e_x1 e_x2
def I12_book_46 : IM Int :=
  ib I12_ends fun v1 =>
  ig (R32 v1) <|
  if v1 = 0 then (ib (I12_no 2) fun v2 =>
  ir v2) else (ib I12_faultOfAll fun v3 =>
  ib (ipI 4 v3) fun _ =>
  ib (igI 4) fun v4 =>
  ig (R32 v4) <|
  if v4 ≤ 0 then (ib (igI 5) fun v5 =>
  ig (R32 v5) <|
  if v5 = 8 then (ib (I12_no 9) fun v6 =>
  ir v6) else (ib (igI 5) fun v7 =>
  ib (isI 6 v7 0) fun _ =>
  (I12_book_110 LFU v7 0))) else (ib (I12_no 4) fun v8 =>
  ir v8))
theorem v_N12_book_46  : Si iI (N12_book_46  ) (I12_book_46  ) := by
  unfold N12_book_46 I12_book_46
  refine si_b v_N12_ends fun v1 => ?_
  refine si_ig fun h1 => ?_
  refine si_ite (cEq rfl (eLit 0) ⟨h1, (by decide)⟩) ?_ ?_
  · refine si_b (v_N12_no (eLit 2)) fun v2 => ?_
    exact si_re rfl
  · refine si_b v_N12_faultOfAll fun v3 => ?_
    refine si_b (si_pI rfl) fun _ => ?_
    refine si_b si_gI fun v4 => ?_
    refine si_ig fun h2 => ?_
    refine si_ite (cLe rfl (eLit 0) ⟨h2, (by decide)⟩) ?_ ?_
    · refine si_b si_gI fun v5 => ?_
      refine si_ig fun h3 => ?_
      refine si_ite (cEq rfl (eLit 8) ⟨h3, (by decide)⟩) ?_ ?_
      · refine si_b (v_N12_no (eLit 9)) fun v6 => ?_
        exact si_re rfl
      · refine si_b si_gI fun v7 => ?_
        refine si_b (si_sI rfl (eLit 0)) fun _ => ?_
        exact (v_N12_book_110 LFU rfl (eLit 0))
    · refine si_b (v_N12_no (eLit 4)) fun v8 => ?_
      exact si_re rfl
def I12_book_25_st (k25 : IM Int) : IM Int :=
  ib (igI 23) fun v1 =>
  ig (R32 v1) <|
  if v1 = 0 then (I12_book_46) else (ib (igI 21) fun v2 =>
  ig (R32 v2) <|
  if v2 = 0 then (I12_book_46) else (ib I12_readGroup fun _ =>
  k25))
theorem v_N12_book_25_st {n_k25 : NM Int32} {k25 : IM Int} (hk25 : Si iI (n_k25 ) (k25 )) : Si iI (N12_book_25_st n_k25 ) (I12_book_25_st k25 ) := by
  unfold N12_book_25_st I12_book_25_st
  refine si_b si_gI fun v1 => ?_
  refine si_ig fun h1 => ?_
  refine si_ite (cEq rfl (eLit 0) ⟨h1, (by decide)⟩) ?_ ?_
  · exact v_N12_book_46
  · refine si_b si_gI fun v2 => ?_
    refine si_ig fun h2 => ?_
    refine si_ite (cEq rfl (eLit 0) ⟨h2, (by decide)⟩) ?_ ?_
    · exact v_N12_book_46
    · refine si_b v_N12_readGroup fun _ => ?_
      exact hk25
def I12_book_25 : Nat → IM Int
  | 0 => nof
  | n + 1 => I12_book_25_st  (I12_book_25  n) 
theorem v_N12_book_25  : ∀ (n : Nat), Si iI (N12_book_25  n ) (I12_book_25  n ) := by
  intro n
  induction n with
  | zero => exact si_nf
  | succ n ih => exact v_N12_book_25_st  (ih) 
def I12_book : IM Int :=
  ib I12_begins fun _ =>
  ib (ipI 24 0) fun _ =>
  ib (ipI 25 0) fun _ =>
  ib (isI 31 0 0) fun _ =>
  ib I12_readGroup fun _ =>
  I12_book_25 LFU
theorem v_N12_book  : Si iI (N12_book  ) (I12_book  ) := by
  unfold N12_book I12_book
  refine si_b v_N12_begins fun _ => ?_
  refine si_b (si_pI (eLit 0)) fun _ => ?_
  refine si_b (si_pI (eLit 0)) fun _ => ?_
  refine si_b (si_sI (eLit 0) (eLit 0)) fun _ => ?_
  refine si_b v_N12_readGroup fun _ => ?_
  exact v_N12_book_25 LFU
def I12_faultOfChanges_155 (k84 : Int → Int → Int → IM Int) (x1 : Int) (x3 : Int) (y0 : Int) : IM Int :=
  (k84 x1 y0 (x3 + 1))
theorem v_N12_faultOfChanges_155 {n_k84 : Int32 → Int32 → Int32 → NM Int32} {k84 : Int → Int → Int → IM Int} (hk84 : ∀ {n0 : Int32} {z0 : Int} (_ : n0 = iI z0) {n1 : Int32} {z1 : Int} (_ : n1 = iI z1) {n2 : Int32} {z2 : Int} (_ : n2 = iI z2), Si iI (n_k84 n0 n1 n2) (k84 z0 z1 z2)) {n_x1 : Int32} {x1 : Int} (e_x1 : n_x1 = iI x1) {n_x3 : Int32} {x3 : Int} (e_x3 : n_x3 = iI x3) {n_y0 : Int32} {y0 : Int} (e_y0 : n_y0 = iI y0) : Si iI (N12_faultOfChanges_155 n_k84 n_x1 n_x3 n_y0) (I12_faultOfChanges_155 k84 x1 x3 y0) := by
  subst e_x1
  subst e_x3
  subst e_y0
  unfold N12_faultOfChanges_155 I12_faultOfChanges_155
  exact (hk84 rfl rfl (eAdd rfl (eLit 1)))
def I12_faultOfChanges_150 (k84 : Int → Int → Int → IM Int) (x1 : Int) (x3 : Int) : IM Int :=
  (I12_faultOfChanges_155 k84 x1 x3 1)
theorem v_N12_faultOfChanges_150 {n_k84 : Int32 → Int32 → Int32 → NM Int32} {k84 : Int → Int → Int → IM Int} (hk84 : ∀ {n0 : Int32} {z0 : Int} (_ : n0 = iI z0) {n1 : Int32} {z1 : Int} (_ : n1 = iI z1) {n2 : Int32} {z2 : Int} (_ : n2 = iI z2), Si iI (n_k84 n0 n1 n2) (k84 z0 z1 z2)) {n_x1 : Int32} {x1 : Int} (e_x1 : n_x1 = iI x1) {n_x3 : Int32} {x3 : Int} (e_x3 : n_x3 = iI x3) : Si iI (N12_faultOfChanges_150 n_k84 n_x1 n_x3) (I12_faultOfChanges_150 k84 x1 x3) := by
  subst e_x1
  subst e_x3
  unfold N12_faultOfChanges_150 I12_faultOfChanges_150
  exact (v_N12_faultOfChanges_155 hk84 rfl rfl (eLit 1))
def I12_faultOfChanges_147 (k84 : Int → Int → Int → IM Int) (x1 : Int) (x3 : Int) (y0 : Int) : IM Int :=
  ig (R32 y0) <|
  if y0 ≤ 0 then ((I12_faultOfChanges_155 k84 x1 x3 0)) else ((I12_faultOfChanges_150 k84 x1 x3))
theorem v_N12_faultOfChanges_147 {n_k84 : Int32 → Int32 → Int32 → NM Int32} {k84 : Int → Int → Int → IM Int} (hk84 : ∀ {n0 : Int32} {z0 : Int} (_ : n0 = iI z0) {n1 : Int32} {z1 : Int} (_ : n1 = iI z1) {n2 : Int32} {z2 : Int} (_ : n2 = iI z2), Si iI (n_k84 n0 n1 n2) (k84 z0 z1 z2)) {n_x1 : Int32} {x1 : Int} (e_x1 : n_x1 = iI x1) {n_x3 : Int32} {x3 : Int} (e_x3 : n_x3 = iI x3) {n_y0 : Int32} {y0 : Int} (e_y0 : n_y0 = iI y0) : Si iI (N12_faultOfChanges_147 n_k84 n_x1 n_x3 n_y0) (I12_faultOfChanges_147 k84 x1 x3 y0) := by
  subst e_x1
  subst e_x3
  subst e_y0
  unfold N12_faultOfChanges_147 I12_faultOfChanges_147
  refine si_ig fun h1 => ?_
  refine si_ite (cLe rfl (eLit 0) ⟨h1, (by decide)⟩) ?_ ?_
  · exact (v_N12_faultOfChanges_155 hk84 rfl rfl (eLit 0))
  · exact (v_N12_faultOfChanges_150 hk84 rfl rfl)
def I12_faultOfChanges_162 (x2 : Int) : IM Int :=
  ig (R32 x2) <|
  if x2 = 0 then (ir 0) else (ir 6)
theorem v_N12_faultOfChanges_162  {n_x2 : Int32} {x2 : Int} (e_x2 : n_x2 = iI x2) : Si iI (N12_faultOfChanges_162  n_x2) (I12_faultOfChanges_162  x2) := by
  subst e_x2
  unfold N12_faultOfChanges_162 I12_faultOfChanges_162
  refine si_ig fun h1 => ?_
  refine si_ite (cEq rfl (eLit 0) ⟨h1, (by decide)⟩) ?_ ?_
  · exact si_re (eLit 0)
  · exact si_re (eLit 6)
def I12_faultOfChanges_84_st (k84 : Int → Int → Int → IM Int) (x1 : Int) (x2 : Int) (x3 : Int) : IM Int :=
  ib (igI 25) fun v1 =>
  ig (R32 v1) <|
  ig (R32 x3) <|
  if v1 ≤ x3 then ((I12_faultOfChanges_162 x2)) else (ib (iaI 33 x3) fun v2 =>
  ib (I12_gatheringOf x1 v2) fun v3 =>
  ib (iaI 34 x3) fun v4 =>
  ib (I12_spot x1 v3 v4) fun v5 =>
  ig (R32 x2) <|
  if x2 = 0 then (ib (iaI 32 x3) fun v6 =>
  ig (R32 v6) <|
  if v6 = 43 then (ib (iaI 10 v5) fun v7 =>
  (I12_faultOfChanges_147 k84 x1 x3 v7)) else (ib (iaI 9 v5) fun v8 =>
  (I12_faultOfChanges_147 k84 x1 x3 v8))) else ((I12_faultOfChanges_150 k84 x1 x3)))
theorem v_N12_faultOfChanges_84_st {n_k84 : Int32 → Int32 → Int32 → NM Int32} {k84 : Int → Int → Int → IM Int} (hk84 : ∀ {n0 : Int32} {z0 : Int} (_ : n0 = iI z0) {n1 : Int32} {z1 : Int} (_ : n1 = iI z1) {n2 : Int32} {z2 : Int} (_ : n2 = iI z2), Si iI (n_k84 n0 n1 n2) (k84 z0 z1 z2)) {n_x1 : Int32} {x1 : Int} (e_x1 : n_x1 = iI x1) {n_x2 : Int32} {x2 : Int} (e_x2 : n_x2 = iI x2) {n_x3 : Int32} {x3 : Int} (e_x3 : n_x3 = iI x3) : Si iI (N12_faultOfChanges_84_st n_k84 n_x1 n_x2 n_x3) (I12_faultOfChanges_84_st k84 x1 x2 x3) := by
  subst e_x1
  subst e_x2
  subst e_x3
  unfold N12_faultOfChanges_84_st I12_faultOfChanges_84_st
  refine si_b si_gI fun v1 => ?_
  refine si_ig fun h1 => ?_
  refine si_ig fun h2 => ?_
  refine si_ite (cLe rfl rfl ⟨h1, h2⟩) ?_ ?_
  · exact (v_N12_faultOfChanges_162 rfl)
  · refine si_b (si_aI rfl) fun v2 => ?_
    refine si_b (v_N12_gatheringOf rfl rfl) fun v3 => ?_
    refine si_b (si_aI rfl) fun v4 => ?_
    refine si_b (v_N12_spot rfl rfl rfl) fun v5 => ?_
    refine si_ig fun h3 => ?_
    refine si_ite (cEq rfl (eLit 0) ⟨h3, (by decide)⟩) ?_ ?_
    · refine si_b (si_aI rfl) fun v6 => ?_
      refine si_ig fun h4 => ?_
      refine si_ite (cEq rfl (eLit 43) ⟨h4, (by decide)⟩) ?_ ?_
      · refine si_b (si_aI rfl) fun v7 => ?_
        exact (v_N12_faultOfChanges_147 hk84 rfl rfl rfl)
      · refine si_b (si_aI rfl) fun v8 => ?_
        exact (v_N12_faultOfChanges_147 hk84 rfl rfl rfl)
    · exact (v_N12_faultOfChanges_150 hk84 rfl rfl)
def I12_faultOfChanges_84 : Nat → Int → Int → Int → IM Int
  | 0 => fun _ _ _ => nof
  | n + 1 => fun x1 x2 x3 => I12_faultOfChanges_84_st  (I12_faultOfChanges_84  n) x1 x2 x3
theorem v_N12_faultOfChanges_84  : ∀ (n : Nat) {n_x1 : Int32} {x1 : Int} (e_x1 : n_x1 = iI x1) {n_x2 : Int32} {x2 : Int} (e_x2 : n_x2 = iI x2) {n_x3 : Int32} {x3 : Int} (e_x3 : n_x3 = iI x3), Si iI (N12_faultOfChanges_84  n n_x1 n_x2 n_x3) (I12_faultOfChanges_84  n x1 x2 x3) := by
  intro n
  induction n with
  | zero => intro n_x1 x1 e_x1 n_x2 x2 e_x2 n_x3 x3 e_x3; exact si_nf
  | succ n ih => intro n_x1 x1 e_x1 n_x2 x2 e_x2 n_x3 x3 e_x3; exact v_N12_faultOfChanges_84_st  (ih) e_x1 e_x2 e_x3
def I12_faultOfChanges_58 (x1 : Int) : IM Int :=
  ib (igI 25) fun v1 =>
  ib (I12_isFewPut 0 v1) fun v2 =>
  ig (R32 v2) <|
  if v2 = 0 then (ir 5) else (ib (igI 25) fun v3 =>
  ib (I12_isTwice 0 v3) fun v4 =>
  (I12_faultOfChanges_84 LFU x1 v4 0))
theorem v_N12_faultOfChanges_58  {n_x1 : Int32} {x1 : Int} (e_x1 : n_x1 = iI x1) : Si iI (N12_faultOfChanges_58  n_x1) (I12_faultOfChanges_58  x1) := by
  subst e_x1
  unfold N12_faultOfChanges_58 I12_faultOfChanges_58
  refine si_b si_gI fun v1 => ?_
  refine si_b (v_N12_isFewPut (eLit 0) rfl) fun v2 => ?_
  refine si_ig fun h1 => ?_
  refine si_ite (cEq rfl (eLit 0) ⟨h1, (by decide)⟩) ?_ ?_
  · exact si_re (eLit 5)
  · refine si_b si_gI fun v3 => ?_
    refine si_b (v_N12_isTwice (eLit 0) rfl) fun v4 => ?_
    exact (v_N12_faultOfChanges_84 LFU rfl rfl (eLit 0))
def I12_faultOfChanges_2_st (k2 : Int → Int → IM Int) (x1 : Int) (x2 : Int) : IM Int :=
  ib (igI 25) fun v1 =>
  ig (R32 v1) <|
  ig (R32 x2) <|
  if v1 ≤ x2 then ((I12_faultOfChanges_58 x1)) else (ib (iaI 33 x2) fun v2 =>
  ib (I12_gatheringOf x1 v2) fun v3 =>
  ig (R32 v3) <|
  if v3 < 0 then (ir 4) else (ib (iaI 34 x2) fun v4 =>
  ib (iaI 8 ((x1 * 71) + v3)) fun v5 =>
  ib (I12_isIn v4 1 v5) fun v6 =>
  ig (R32 v6) <|
  if v6 = 0 then (ir 4) else ((k2 x1 (x2 + 1)))))
theorem v_N12_faultOfChanges_2_st {n_k2 : Int32 → Int32 → NM Int32} {k2 : Int → Int → IM Int} (hk2 : ∀ {n0 : Int32} {z0 : Int} (_ : n0 = iI z0) {n1 : Int32} {z1 : Int} (_ : n1 = iI z1), Si iI (n_k2 n0 n1) (k2 z0 z1)) {n_x1 : Int32} {x1 : Int} (e_x1 : n_x1 = iI x1) {n_x2 : Int32} {x2 : Int} (e_x2 : n_x2 = iI x2) : Si iI (N12_faultOfChanges_2_st n_k2 n_x1 n_x2) (I12_faultOfChanges_2_st k2 x1 x2) := by
  subst e_x1
  subst e_x2
  unfold N12_faultOfChanges_2_st I12_faultOfChanges_2_st
  refine si_b si_gI fun v1 => ?_
  refine si_ig fun h1 => ?_
  refine si_ig fun h2 => ?_
  refine si_ite (cLe rfl rfl ⟨h1, h2⟩) ?_ ?_
  · exact (v_N12_faultOfChanges_58 rfl)
  · refine si_b (si_aI rfl) fun v2 => ?_
    refine si_b (v_N12_gatheringOf rfl rfl) fun v3 => ?_
    refine si_ig fun h3 => ?_
    refine si_ite (cLt rfl (eLit 0) ⟨h3, (by decide)⟩) ?_ ?_
    · exact si_re (eLit 4)
    · refine si_b (si_aI rfl) fun v4 => ?_
      refine si_b (si_aI (eAdd (eMul rfl (eLit 71)) rfl)) fun v5 => ?_
      refine si_b (v_N12_isIn rfl (eLit 1) rfl) fun v6 => ?_
      refine si_ig fun h4 => ?_
      refine si_ite (cEq rfl (eLit 0) ⟨h4, (by decide)⟩) ?_ ?_
      · exact si_re (eLit 4)
      · exact (hk2 rfl (eAdd rfl (eLit 1)))
def I12_faultOfChanges_2 : Nat → Int → Int → IM Int
  | 0 => fun _ _ => nof
  | n + 1 => fun x1 x2 => I12_faultOfChanges_2_st  (I12_faultOfChanges_2  n) x1 x2
theorem v_N12_faultOfChanges_2  : ∀ (n : Nat) {n_x1 : Int32} {x1 : Int} (e_x1 : n_x1 = iI x1) {n_x2 : Int32} {x2 : Int} (e_x2 : n_x2 = iI x2), Si iI (N12_faultOfChanges_2  n n_x1 n_x2) (I12_faultOfChanges_2  n x1 x2) := by
  intro n
  induction n with
  | zero => intro n_x1 x1 e_x1 n_x2 x2 e_x2; exact si_nf
  | succ n ih => intro n_x1 x1 e_x1 n_x2 x2 e_x2; exact v_N12_faultOfChanges_2_st  (ih) e_x1 e_x2
def I12_faultOfChanges (a1 : Int) : IM Int :=
  (I12_faultOfChanges_2 LFU a1 0)
theorem v_N12_faultOfChanges  {n_a1 : Int32} {a1 : Int} (e_a1 : n_a1 = iI a1) : Si iI (N12_faultOfChanges  n_a1) (I12_faultOfChanges  a1) := by
  subst e_a1
  unfold N12_faultOfChanges I12_faultOfChanges
  exact (v_N12_faultOfChanges_2 LFU rfl (eLit 0))
def I12_change_198 (k97 : Int → Int → Int → IM Int) (x1 : Int) (x2 : Int) (x3 : Int) : IM Int :=
  (k97 x1 x2 (x3 + 1))
theorem v_N12_change_198 {n_k97 : Int32 → Int32 → Int32 → NM Int32} {k97 : Int → Int → Int → IM Int} (hk97 : ∀ {n0 : Int32} {z0 : Int} (_ : n0 = iI z0) {n1 : Int32} {z1 : Int} (_ : n1 = iI z1) {n2 : Int32} {z2 : Int} (_ : n2 = iI z2), Si iI (n_k97 n0 n1 n2) (k97 z0 z1 z2)) {n_x1 : Int32} {x1 : Int} (e_x1 : n_x1 = iI x1) {n_x2 : Int32} {x2 : Int} (e_x2 : n_x2 = iI x2) {n_x3 : Int32} {x3 : Int} (e_x3 : n_x3 = iI x3) : Si iI (N12_change_198 n_k97 n_x1 n_x2 n_x3) (I12_change_198 k97 x1 x2 x3) := by
  subst e_x1
  subst e_x2
  subst e_x3
  unfold N12_change_198 I12_change_198
  exact (hk97 rfl rfl (eAdd rfl (eLit 1)))
def I12_change_137_st (k97 : Int → Int → Int → IM Int) (k137 : Int → Int → Int → Int → IM Int) (x1 : Int) (x2 : Int) (x3 : Int) (x4 : Int) : IM Int :=
  ig (R32 x4) <|
  if 12 < x4 then ((I12_change_198 k97 x1 x2 x3)) else (ib (I12_spot x2 x3 x4) fun v1 =>
  ib (I12_spot x1 x3 x4) fun v2 =>
  ib (iaI 9 v2) fun v3 =>
  ib (isI 9 v1 v3) fun _ =>
  ib (I12_spot x2 x3 x4) fun v4 =>
  ib (I12_spot x1 x3 x4) fun v5 =>
  ib (iaI 10 v5) fun v6 =>
  ib (isI 10 v4 v6) fun _ =>
  (k137 x1 x2 x3 (x4 + 1)))
theorem v_N12_change_137_st {n_k97 : Int32 → Int32 → Int32 → NM Int32} {k97 : Int → Int → Int → IM Int} (hk97 : ∀ {n0 : Int32} {z0 : Int} (_ : n0 = iI z0) {n1 : Int32} {z1 : Int} (_ : n1 = iI z1) {n2 : Int32} {z2 : Int} (_ : n2 = iI z2), Si iI (n_k97 n0 n1 n2) (k97 z0 z1 z2)) {n_k137 : Int32 → Int32 → Int32 → Int32 → NM Int32} {k137 : Int → Int → Int → Int → IM Int} (hk137 : ∀ {n0 : Int32} {z0 : Int} (_ : n0 = iI z0) {n1 : Int32} {z1 : Int} (_ : n1 = iI z1) {n2 : Int32} {z2 : Int} (_ : n2 = iI z2) {n3 : Int32} {z3 : Int} (_ : n3 = iI z3), Si iI (n_k137 n0 n1 n2 n3) (k137 z0 z1 z2 z3)) {n_x1 : Int32} {x1 : Int} (e_x1 : n_x1 = iI x1) {n_x2 : Int32} {x2 : Int} (e_x2 : n_x2 = iI x2) {n_x3 : Int32} {x3 : Int} (e_x3 : n_x3 = iI x3) {n_x4 : Int32} {x4 : Int} (e_x4 : n_x4 = iI x4) : Si iI (N12_change_137_st n_k97 n_k137 n_x1 n_x2 n_x3 n_x4) (I12_change_137_st k97 k137 x1 x2 x3 x4) := by
  subst e_x1
  subst e_x2
  subst e_x3
  subst e_x4
  unfold N12_change_137_st I12_change_137_st
  refine si_ig fun h1 => ?_
  refine si_ite (cLt (eLit 12) rfl ⟨(by decide), h1⟩) ?_ ?_
  · exact (v_N12_change_198 hk97 rfl rfl rfl)
  · refine si_b (v_N12_spot rfl rfl rfl) fun v1 => ?_
    refine si_b (v_N12_spot rfl rfl rfl) fun v2 => ?_
    refine si_b (si_aI rfl) fun v3 => ?_
    refine si_b (si_sI rfl rfl) fun _ => ?_
    refine si_b (v_N12_spot rfl rfl rfl) fun v4 => ?_
    refine si_b (v_N12_spot rfl rfl rfl) fun v5 => ?_
    refine si_b (si_aI rfl) fun v6 => ?_
    refine si_b (si_sI rfl rfl) fun _ => ?_
    exact (hk137 rfl rfl rfl (eAdd rfl (eLit 1)))
def I12_change_137 (k97 : Int → Int → Int → IM Int) : Nat → Int → Int → Int → Int → IM Int
  | 0 => fun _ _ _ _ => nof
  | n + 1 => fun x1 x2 x3 x4 => I12_change_137_st k97 (I12_change_137 k97 n) x1 x2 x3 x4
theorem v_N12_change_137 {n_k97 : Int32 → Int32 → Int32 → NM Int32} {k97 : Int → Int → Int → IM Int} (hk97 : ∀ {n0 : Int32} {z0 : Int} (_ : n0 = iI z0) {n1 : Int32} {z1 : Int} (_ : n1 = iI z1) {n2 : Int32} {z2 : Int} (_ : n2 = iI z2), Si iI (n_k97 n0 n1 n2) (k97 z0 z1 z2)) : ∀ (n : Nat) {n_x1 : Int32} {x1 : Int} (e_x1 : n_x1 = iI x1) {n_x2 : Int32} {x2 : Int} (e_x2 : n_x2 = iI x2) {n_x3 : Int32} {x3 : Int} (e_x3 : n_x3 = iI x3) {n_x4 : Int32} {x4 : Int} (e_x4 : n_x4 = iI x4), Si iI (N12_change_137 n_k97 n n_x1 n_x2 n_x3 n_x4) (I12_change_137 k97 n x1 x2 x3 x4) := by
  intro n
  induction n with
  | zero => intro n_x1 x1 e_x1 n_x2 x2 e_x2 n_x3 x3 e_x3 n_x4 x4 e_x4; exact si_nf
  | succ n ih => intro n_x1 x1 e_x1 n_x2 x2 e_x2 n_x3 x3 e_x3 n_x4 x4 e_x4; exact v_N12_change_137_st hk97 (ih) e_x1 e_x2 e_x3 e_x4
def I12_change_226 (x2 : Int) : IM Int :=
  ib (I12_isMade x2) fun v1 =>
  ir v1
theorem v_N12_change_226  {n_x2 : Int32} {x2 : Int} (e_x2 : n_x2 = iI x2) : Si iI (N12_change_226  n_x2) (I12_change_226  x2) := by
  subst e_x2
  unfold N12_change_226 I12_change_226
  refine si_b (v_N12_isMade rfl) fun v1 => ?_
  exact si_re rfl
def I12_change_206_st (k206 : Int → Int → IM Int) (x2 : Int) (x3 : Int) : IM Int :=
  ib (igI 25) fun v1 =>
  ig (R32 v1) <|
  ig (R32 x3) <|
  if v1 ≤ x3 then ((I12_change_226 x2)) else (ib (I12_apply x2 x3) fun _ =>
  (k206 x2 (x3 + 1)))
theorem v_N12_change_206_st {n_k206 : Int32 → Int32 → NM Int32} {k206 : Int → Int → IM Int} (hk206 : ∀ {n0 : Int32} {z0 : Int} (_ : n0 = iI z0) {n1 : Int32} {z1 : Int} (_ : n1 = iI z1), Si iI (n_k206 n0 n1) (k206 z0 z1)) {n_x2 : Int32} {x2 : Int} (e_x2 : n_x2 = iI x2) {n_x3 : Int32} {x3 : Int} (e_x3 : n_x3 = iI x3) : Si iI (N12_change_206_st n_k206 n_x2 n_x3) (I12_change_206_st k206 x2 x3) := by
  subst e_x2
  subst e_x3
  unfold N12_change_206_st I12_change_206_st
  refine si_b si_gI fun v1 => ?_
  refine si_ig fun h1 => ?_
  refine si_ig fun h2 => ?_
  refine si_ite (cLe rfl rfl ⟨h1, h2⟩) ?_ ?_
  · exact (v_N12_change_226 rfl)
  · refine si_b (v_N12_apply rfl rfl) fun _ => ?_
    exact (hk206 rfl (eAdd rfl (eLit 1)))
def I12_change_206 : Nat → Int → Int → IM Int
  | 0 => fun _ _ => nof
  | n + 1 => fun x2 x3 => I12_change_206_st  (I12_change_206  n) x2 x3
theorem v_N12_change_206  : ∀ (n : Nat) {n_x2 : Int32} {x2 : Int} (e_x2 : n_x2 = iI x2) {n_x3 : Int32} {x3 : Int} (e_x3 : n_x3 = iI x3), Si iI (N12_change_206  n n_x2 n_x3) (I12_change_206  n x2 x3) := by
  intro n
  induction n with
  | zero => intro n_x2 x2 e_x2 n_x3 x3 e_x3; exact si_nf
  | succ n ih => intro n_x2 x2 e_x2 n_x3 x3 e_x3; exact v_N12_change_206_st  (ih) e_x2 e_x3
def I12_change_204 (x2 : Int) : IM Int :=
  (I12_change_206 LFU x2 0)
theorem v_N12_change_204  {n_x2 : Int32} {x2 : Int} (e_x2 : n_x2 = iI x2) : Si iI (N12_change_204  n_x2) (I12_change_204  x2) := by
  subst e_x2
  unfold N12_change_204 I12_change_204
  exact (v_N12_change_206 LFU rfl (eLit 0))
def I12_change_97_st (k97 : Int → Int → Int → IM Int) (x1 : Int) (x2 : Int) (x3 : Int) : IM Int :=
  ib (iaI 6 x1) fun v1 =>
  ig (R32 v1) <|
  ig (R32 x3) <|
  if v1 ≤ x3 then ((I12_change_204 x2)) else (ib (iaI 7 ((x1 * 71) + x3)) fun v2 =>
  ib (iaI 8 ((x1 * 71) + x3)) fun v3 =>
  ib (I12_add x2 v2 v3) fun _ =>
  (I12_change_137 k97 LFU x1 x2 x3 1))
theorem v_N12_change_97_st {n_k97 : Int32 → Int32 → Int32 → NM Int32} {k97 : Int → Int → Int → IM Int} (hk97 : ∀ {n0 : Int32} {z0 : Int} (_ : n0 = iI z0) {n1 : Int32} {z1 : Int} (_ : n1 = iI z1) {n2 : Int32} {z2 : Int} (_ : n2 = iI z2), Si iI (n_k97 n0 n1 n2) (k97 z0 z1 z2)) {n_x1 : Int32} {x1 : Int} (e_x1 : n_x1 = iI x1) {n_x2 : Int32} {x2 : Int} (e_x2 : n_x2 = iI x2) {n_x3 : Int32} {x3 : Int} (e_x3 : n_x3 = iI x3) : Si iI (N12_change_97_st n_k97 n_x1 n_x2 n_x3) (I12_change_97_st k97 x1 x2 x3) := by
  subst e_x1
  subst e_x2
  subst e_x3
  unfold N12_change_97_st I12_change_97_st
  refine si_b (si_aI rfl) fun v1 => ?_
  refine si_ig fun h1 => ?_
  refine si_ig fun h2 => ?_
  refine si_ite (cLe rfl rfl ⟨h1, h2⟩) ?_ ?_
  · exact (v_N12_change_204 rfl)
  · refine si_b (si_aI (eAdd (eMul rfl (eLit 71)) rfl)) fun v2 => ?_
    refine si_b (si_aI (eAdd (eMul rfl (eLit 71)) rfl)) fun v3 => ?_
    refine si_b (v_N12_add rfl rfl rfl) fun _ => ?_
    exact (v_N12_change_137 hk97 LFU rfl rfl rfl (eLit 1))
def I12_change_97 : Nat → Int → Int → Int → IM Int
  | 0 => fun _ _ _ => nof
  | n + 1 => fun x1 x2 x3 => I12_change_97_st  (I12_change_97  n) x1 x2 x3
theorem v_N12_change_97  : ∀ (n : Nat) {n_x1 : Int32} {x1 : Int} (e_x1 : n_x1 = iI x1) {n_x2 : Int32} {x2 : Int} (e_x2 : n_x2 = iI x2) {n_x3 : Int32} {x3 : Int} (e_x3 : n_x3 = iI x3), Si iI (N12_change_97  n n_x1 n_x2 n_x3) (I12_change_97  n x1 x2 x3) := by
  intro n
  induction n with
  | zero => intro n_x1 x1 e_x1 n_x2 x2 e_x2 n_x3 x3 e_x3; exact si_nf
  | succ n ih => intro n_x1 x1 e_x1 n_x2 x2 e_x2 n_x3 x3 e_x3; exact v_N12_change_97_st  (ih) e_x1 e_x2 e_x3
def I12_change (a1 : Int) : IM Int :=
  ib (I12_isBook a1) fun v1 =>
  ig (R32 v1) <|
  if v1 = 0 then (ib (ipI 1 0) fun _ =>
  ib (I12_no 1) fun v2 =>
  ir v2) else (ib I12_begins fun _ =>
  ib (ipI 25 0) fun _ =>
  ib I12_readChanges fun _ =>
  ib I12_ends fun v3 =>
  ig (R32 v3) <|
  if v3 = 0 then (ib (I12_no 2) fun v4 =>
  ir v4) else (ib (I12_faultOfChanges a1) fun v5 =>
  ib (ipI 4 v5) fun _ =>
  ib (igI 4) fun v6 =>
  ig (R32 v6) <|
  if v6 ≤ 0 then (ib (igI 5) fun v7 =>
  ig (R32 v7) <|
  if v7 = 8 then (ib (I12_no 9) fun v8 =>
  ir v8) else (ib (igI 5) fun v9 =>
  ib (isI 6 v9 0) fun _ =>
  (I12_change_97 LFU a1 v9 0))) else (ib (I12_no 4) fun v10 =>
  ir v10)))
theorem v_N12_change  {n_a1 : Int32} {a1 : Int} (e_a1 : n_a1 = iI a1) : Si iI (N12_change  n_a1) (I12_change  a1) := by
  subst e_a1
  unfold N12_change I12_change
  refine si_b (v_N12_isBook rfl) fun v1 => ?_
  refine si_ig fun h1 => ?_
  refine si_ite (cEq rfl (eLit 0) ⟨h1, (by decide)⟩) ?_ ?_
  · refine si_b (si_pI (eLit 0)) fun _ => ?_
    refine si_b (v_N12_no (eLit 1)) fun v2 => ?_
    exact si_re rfl
  · refine si_b v_N12_begins fun _ => ?_
    refine si_b (si_pI (eLit 0)) fun _ => ?_
    refine si_b v_N12_readChanges fun _ => ?_
    refine si_b v_N12_ends fun v3 => ?_
    refine si_ig fun h2 => ?_
    refine si_ite (cEq rfl (eLit 0) ⟨h2, (by decide)⟩) ?_ ?_
    · refine si_b (v_N12_no (eLit 2)) fun v4 => ?_
      exact si_re rfl
    · refine si_b (v_N12_faultOfChanges rfl) fun v5 => ?_
      refine si_b (si_pI rfl) fun _ => ?_
      refine si_b si_gI fun v6 => ?_
      refine si_ig fun h3 => ?_
      refine si_ite (cLe rfl (eLit 0) ⟨h3, (by decide)⟩) ?_ ?_
      · refine si_b si_gI fun v7 => ?_
        refine si_ig fun h4 => ?_
        refine si_ite (cEq rfl (eLit 8) ⟨h4, (by decide)⟩) ?_ ?_
        · refine si_b (v_N12_no (eLit 9)) fun v8 => ?_
          exact si_re rfl
        · refine si_b si_gI fun v9 => ?_
          refine si_b (si_sI rfl (eLit 0)) fun _ => ?_
          exact (v_N12_change_97 LFU rfl rfl (eLit 0))
      · refine si_b (v_N12_no (eLit 4)) fun v10 => ?_
        exact si_re rfl
def I12_readName : IM Unit :=
  ib (I12_take 2) fun v1 =>
  ib (ipI 42 v1) fun _ =>
  ib (I12_take 3) fun v2 =>
  ib (ipI 43 v2) fun _ =>
  ib (I12_goes 43) fun v3 =>
  ig (R32 v3) <|
  if v3 = 0 then (ib (ipI 44 (-1)) fun _ =>
  ir ()) else (ib (I12_take 3) fun v4 =>
  ib (ipI 44 v4) fun _ =>
  ir ())
theorem v_N12_readName  : Si (fun x : Unit => x) (N12_readName  ) (I12_readName  ) := by
  unfold N12_readName I12_readName
  refine si_b (v_N12_take (eLit 2)) fun v1 => ?_
  refine si_b (si_pI rfl) fun _ => ?_
  refine si_b (v_N12_take (eLit 3)) fun v2 => ?_
  refine si_b (si_pI rfl) fun _ => ?_
  refine si_b (v_N12_goes (eLit 43)) fun v3 => ?_
  refine si_ig fun h1 => ?_
  refine si_ite (cEq rfl (eLit 0) ⟨h1, (by decide)⟩) ?_ ?_
  · refine si_b (si_pI (eLn 1)) fun _ => ?_
    exact si_rn
  · refine si_b (v_N12_take (eLit 3)) fun v4 => ?_
    refine si_b (si_pI rfl) fun _ => ?_
    exact si_rn
def I12_named_36 (y0 : Int) (y1 : Int) (y2 : Int) (y3 : Int) : IM Int :=
  ib (I12_placeOf y3 y2 y1 y0) fun v1 =>
  ir v1
theorem v_N12_named_36  {n_y0 : Int32} {y0 : Int} (e_y0 : n_y0 = iI y0) {n_y1 : Int32} {y1 : Int} (e_y1 : n_y1 = iI y1) {n_y2 : Int32} {y2 : Int} (e_y2 : n_y2 = iI y2) {n_y3 : Int32} {y3 : Int} (e_y3 : n_y3 = iI y3) : Si iI (N12_named_36  n_y0 n_y1 n_y2 n_y3) (I12_named_36  y0 y1 y2 y3) := by
  subst e_y0
  subst e_y1
  subst e_y2
  subst e_y3
  unfold N12_named_36 I12_named_36
  refine si_b (v_N12_placeOf rfl rfl rfl rfl) fun v1 => ?_
  exact si_re rfl
def I12_named (a1 : Int) : IM Int :=
  ib (igI 44) fun v1 =>
  ig (R32 v1) <|
  if v1 = 0 then (ir (-1)) else (ib (igI 42) fun v2 =>
  ib (igI 43) fun v3 =>
  ib (igI 44) fun v4 =>
  ig (R32 v4) <|
  if 0 ≤ v4 then (ib (igI 44) fun v5 =>
  (I12_named_36 v5 v3 v2 a1)) else ((I12_named_36 0 v3 v2 a1)))
theorem v_N12_named  {n_a1 : Int32} {a1 : Int} (e_a1 : n_a1 = iI a1) : Si iI (N12_named  n_a1) (I12_named  a1) := by
  subst e_a1
  unfold N12_named I12_named
  refine si_b si_gI fun v1 => ?_
  refine si_ig fun h1 => ?_
  refine si_ite (cEq rfl (eLit 0) ⟨h1, (by decide)⟩) ?_ ?_
  · exact si_re (eLn 1)
  · refine si_b si_gI fun v2 => ?_
    refine si_b si_gI fun v3 => ?_
    refine si_b si_gI fun v4 => ?_
    refine si_ig fun h2 => ?_
    refine si_ite (cLe (eLit 0) rfl ⟨(by decide), h2⟩) ?_ ?_
    · refine si_b si_gI fun v5 => ?_
      exact (v_N12_named_36 rfl rfl rfl rfl)
    · exact (v_N12_named_36 (eLit 0) rfl rfl rfl)
def I12_copy_241 : IM Int :=
  ib (I12_no 9) fun v1 =>
  ir v1
theorem v_N12_copy_241  : Si iI (N12_copy_241  ) (I12_copy_241  ) := by
  unfold N12_copy_241 I12_copy_241
  refine si_b (v_N12_no (eLit 9)) fun v1 => ?_
  exact si_re rfl
def I12_copy_312 (k260 : Int → Int → Int → Int → Int → IM Int) (x1 : Int) (x2 : Int) (x4 : Int) (x5 : Int) (x6 : Int) : IM Int :=
  (k260 x1 x2 x4 x5 (x6 + 1))
theorem v_N12_copy_312 {n_k260 : Int32 → Int32 → Int32 → Int32 → Int32 → NM Int32} {k260 : Int → Int → Int → Int → Int → IM Int} (hk260 : ∀ {n0 : Int32} {z0 : Int} (_ : n0 = iI z0) {n1 : Int32} {z1 : Int} (_ : n1 = iI z1) {n2 : Int32} {z2 : Int} (_ : n2 = iI z2) {n3 : Int32} {z3 : Int} (_ : n3 = iI z3) {n4 : Int32} {z4 : Int} (_ : n4 = iI z4), Si iI (n_k260 n0 n1 n2 n3 n4) (k260 z0 z1 z2 z3 z4)) {n_x1 : Int32} {x1 : Int} (e_x1 : n_x1 = iI x1) {n_x2 : Int32} {x2 : Int} (e_x2 : n_x2 = iI x2) {n_x4 : Int32} {x4 : Int} (e_x4 : n_x4 = iI x4) {n_x5 : Int32} {x5 : Int} (e_x5 : n_x5 = iI x5) {n_x6 : Int32} {x6 : Int} (e_x6 : n_x6 = iI x6) : Si iI (N12_copy_312 n_k260 n_x1 n_x2 n_x4 n_x5 n_x6) (I12_copy_312 k260 x1 x2 x4 x5 x6) := by
  subst e_x1
  subst e_x2
  subst e_x4
  subst e_x5
  subst e_x6
  unfold N12_copy_312 I12_copy_312
  exact (hk260 rfl rfl rfl rfl (eAdd rfl (eLit 1)))
def I12_copy_275_st (k260 : Int → Int → Int → Int → Int → IM Int) (k275 : Int → Int → Int → Int → Int → Int → IM Int) (x1 : Int) (x2 : Int) (x4 : Int) (x5 : Int) (x6 : Int) (x7 : Int) : IM Int :=
  ib (iaI 46 x6) fun v1 =>
  ig (R32 v1) <|
  ig (R32 x7) <|
  if v1 < x7 then ((I12_copy_312 k260 x1 x2 x4 x5 x6)) else (ib (isI 18 ((x5 * 400) + x4) x7) fun _ =>
  (k275 x1 x2 (x4 + 1) x5 x6 (x7 + 1)))
theorem v_N12_copy_275_st {n_k260 : Int32 → Int32 → Int32 → Int32 → Int32 → NM Int32} {k260 : Int → Int → Int → Int → Int → IM Int} (hk260 : ∀ {n0 : Int32} {z0 : Int} (_ : n0 = iI z0) {n1 : Int32} {z1 : Int} (_ : n1 = iI z1) {n2 : Int32} {z2 : Int} (_ : n2 = iI z2) {n3 : Int32} {z3 : Int} (_ : n3 = iI z3) {n4 : Int32} {z4 : Int} (_ : n4 = iI z4), Si iI (n_k260 n0 n1 n2 n3 n4) (k260 z0 z1 z2 z3 z4)) {n_k275 : Int32 → Int32 → Int32 → Int32 → Int32 → Int32 → NM Int32} {k275 : Int → Int → Int → Int → Int → Int → IM Int} (hk275 : ∀ {n0 : Int32} {z0 : Int} (_ : n0 = iI z0) {n1 : Int32} {z1 : Int} (_ : n1 = iI z1) {n2 : Int32} {z2 : Int} (_ : n2 = iI z2) {n3 : Int32} {z3 : Int} (_ : n3 = iI z3) {n4 : Int32} {z4 : Int} (_ : n4 = iI z4) {n5 : Int32} {z5 : Int} (_ : n5 = iI z5), Si iI (n_k275 n0 n1 n2 n3 n4 n5) (k275 z0 z1 z2 z3 z4 z5)) {n_x1 : Int32} {x1 : Int} (e_x1 : n_x1 = iI x1) {n_x2 : Int32} {x2 : Int} (e_x2 : n_x2 = iI x2) {n_x4 : Int32} {x4 : Int} (e_x4 : n_x4 = iI x4) {n_x5 : Int32} {x5 : Int} (e_x5 : n_x5 = iI x5) {n_x6 : Int32} {x6 : Int} (e_x6 : n_x6 = iI x6) {n_x7 : Int32} {x7 : Int} (e_x7 : n_x7 = iI x7) : Si iI (N12_copy_275_st n_k260 n_k275 n_x1 n_x2 n_x4 n_x5 n_x6 n_x7) (I12_copy_275_st k260 k275 x1 x2 x4 x5 x6 x7) := by
  subst e_x1
  subst e_x2
  subst e_x4
  subst e_x5
  subst e_x6
  subst e_x7
  unfold N12_copy_275_st I12_copy_275_st
  refine si_b (si_aI rfl) fun v1 => ?_
  refine si_ig fun h1 => ?_
  refine si_ig fun h2 => ?_
  refine si_ite (cLt rfl rfl ⟨h1, h2⟩) ?_ ?_
  · exact (v_N12_copy_312 hk260 rfl rfl rfl rfl rfl)
  · refine si_b (si_sI (eAdd (eMul rfl (eLit 400)) rfl) rfl) fun _ => ?_
    exact (hk275 rfl rfl (eAdd rfl (eLit 1)) rfl rfl (eAdd rfl (eLit 1)))
def I12_copy_275 (k260 : Int → Int → Int → Int → Int → IM Int) : Nat → Int → Int → Int → Int → Int → Int → IM Int
  | 0 => fun _ _ _ _ _ _ => nof
  | n + 1 => fun x1 x2 x4 x5 x6 x7 => I12_copy_275_st k260 (I12_copy_275 k260 n) x1 x2 x4 x5 x6 x7
theorem v_N12_copy_275 {n_k260 : Int32 → Int32 → Int32 → Int32 → Int32 → NM Int32} {k260 : Int → Int → Int → Int → Int → IM Int} (hk260 : ∀ {n0 : Int32} {z0 : Int} (_ : n0 = iI z0) {n1 : Int32} {z1 : Int} (_ : n1 = iI z1) {n2 : Int32} {z2 : Int} (_ : n2 = iI z2) {n3 : Int32} {z3 : Int} (_ : n3 = iI z3) {n4 : Int32} {z4 : Int} (_ : n4 = iI z4), Si iI (n_k260 n0 n1 n2 n3 n4) (k260 z0 z1 z2 z3 z4)) : ∀ (n : Nat) {n_x1 : Int32} {x1 : Int} (e_x1 : n_x1 = iI x1) {n_x2 : Int32} {x2 : Int} (e_x2 : n_x2 = iI x2) {n_x4 : Int32} {x4 : Int} (e_x4 : n_x4 = iI x4) {n_x5 : Int32} {x5 : Int} (e_x5 : n_x5 = iI x5) {n_x6 : Int32} {x6 : Int} (e_x6 : n_x6 = iI x6) {n_x7 : Int32} {x7 : Int} (e_x7 : n_x7 = iI x7), Si iI (N12_copy_275 n_k260 n n_x1 n_x2 n_x4 n_x5 n_x6 n_x7) (I12_copy_275 k260 n x1 x2 x4 x5 x6 x7) := by
  intro n
  induction n with
  | zero => intro n_x1 x1 e_x1 n_x2 x2 e_x2 n_x4 x4 e_x4 n_x5 x5 e_x5 n_x6 x6 e_x6 n_x7 x7 e_x7; exact si_nf
  | succ n ih => intro n_x1 x1 e_x1 n_x2 x2 e_x2 n_x4 x4 e_x4 n_x5 x5 e_x5 n_x6 x6 e_x6 n_x7 x7 e_x7; exact v_N12_copy_275_st hk260 (ih) e_x1 e_x2 e_x4 e_x5 e_x6 e_x7
def I12_copy_318 (x1 : Int) (x4 : Int) (x5 : Int) : IM Int :=
  ib (isI 17 x5 x4) fun _ =>
  ib (isI 16 x5 x1) fun _ =>
  ib (igI 15) fun v1 =>
  ib (ipI 15 (v1 + 1)) fun _ =>
  ib (I12_fine x5) fun v2 =>
  ir v2
theorem v_N12_copy_318  {n_x1 : Int32} {x1 : Int} (e_x1 : n_x1 = iI x1) {n_x4 : Int32} {x4 : Int} (e_x4 : n_x4 = iI x4) {n_x5 : Int32} {x5 : Int} (e_x5 : n_x5 = iI x5) : Si iI (N12_copy_318  n_x1 n_x4 n_x5) (I12_copy_318  x1 x4 x5) := by
  subst e_x1
  subst e_x4
  subst e_x5
  unfold N12_copy_318 I12_copy_318
  refine si_b (si_sI rfl rfl) fun _ => ?_
  refine si_b (si_sI rfl rfl) fun _ => ?_
  refine si_b si_gI fun v1 => ?_
  refine si_b (si_pI (eAdd rfl (eLit 1))) fun _ => ?_
  refine si_b (v_N12_fine rfl) fun v2 => ?_
  exact si_re rfl
def I12_copy_260_st (k260 : Int → Int → Int → Int → Int → IM Int) (x1 : Int) (x2 : Int) (x4 : Int) (x5 : Int) (x6 : Int) : IM Int :=
  ig (R32 x2) <|
  ig (R32 x6) <|
  if x2 ≤ x6 then ((I12_copy_318 x1 x4 x5)) else (ib (iaI 45 x6) fun v1 =>
  (I12_copy_275 k260 LFU x1 x2 x4 x5 x6 v1))
theorem v_N12_copy_260_st {n_k260 : Int32 → Int32 → Int32 → Int32 → Int32 → NM Int32} {k260 : Int → Int → Int → Int → Int → IM Int} (hk260 : ∀ {n0 : Int32} {z0 : Int} (_ : n0 = iI z0) {n1 : Int32} {z1 : Int} (_ : n1 = iI z1) {n2 : Int32} {z2 : Int} (_ : n2 = iI z2) {n3 : Int32} {z3 : Int} (_ : n3 = iI z3) {n4 : Int32} {z4 : Int} (_ : n4 = iI z4), Si iI (n_k260 n0 n1 n2 n3 n4) (k260 z0 z1 z2 z3 z4)) {n_x1 : Int32} {x1 : Int} (e_x1 : n_x1 = iI x1) {n_x2 : Int32} {x2 : Int} (e_x2 : n_x2 = iI x2) {n_x4 : Int32} {x4 : Int} (e_x4 : n_x4 = iI x4) {n_x5 : Int32} {x5 : Int} (e_x5 : n_x5 = iI x5) {n_x6 : Int32} {x6 : Int} (e_x6 : n_x6 = iI x6) : Si iI (N12_copy_260_st n_k260 n_x1 n_x2 n_x4 n_x5 n_x6) (I12_copy_260_st k260 x1 x2 x4 x5 x6) := by
  subst e_x1
  subst e_x2
  subst e_x4
  subst e_x5
  subst e_x6
  unfold N12_copy_260_st I12_copy_260_st
  refine si_ig fun h1 => ?_
  refine si_ig fun h2 => ?_
  refine si_ite (cLe rfl rfl ⟨h1, h2⟩) ?_ ?_
  · exact (v_N12_copy_318 rfl rfl rfl)
  · refine si_b (si_aI rfl) fun v1 => ?_
    exact (v_N12_copy_275 hk260 LFU rfl rfl rfl rfl rfl rfl)
def I12_copy_260 : Nat → Int → Int → Int → Int → Int → IM Int
  | 0 => fun _ _ _ _ _ => nof
  | n + 1 => fun x1 x2 x4 x5 x6 => I12_copy_260_st  (I12_copy_260  n) x1 x2 x4 x5 x6
theorem v_N12_copy_260  : ∀ (n : Nat) {n_x1 : Int32} {x1 : Int} (e_x1 : n_x1 = iI x1) {n_x2 : Int32} {x2 : Int} (e_x2 : n_x2 = iI x2) {n_x4 : Int32} {x4 : Int} (e_x4 : n_x4 = iI x4) {n_x5 : Int32} {x5 : Int} (e_x5 : n_x5 = iI x5) {n_x6 : Int32} {x6 : Int} (e_x6 : n_x6 = iI x6), Si iI (N12_copy_260  n n_x1 n_x2 n_x4 n_x5 n_x6) (I12_copy_260  n x1 x2 x4 x5 x6) := by
  intro n
  induction n with
  | zero => intro n_x1 x1 e_x1 n_x2 x2 e_x2 n_x4 x4 e_x4 n_x5 x5 e_x5 n_x6 x6 e_x6; exact si_nf
  | succ n ih => intro n_x1 x1 e_x1 n_x2 x2 e_x2 n_x4 x4 e_x4 n_x5 x5 e_x5 n_x6 x6 e_x6; exact v_N12_copy_260_st  (ih) e_x1 e_x2 e_x4 e_x5 e_x6
def I12_copy_224 (x1 : Int) (x2 : Int) (x4 : Int) : IM Int :=
  ib (igI 15) fun v1 =>
  ig (R32 v1) <|
  if v1 = 16 then (I12_copy_241) else (ig (R32 x4) <|
  if x4 ≤ 400 then (ib (igI 15) fun v2 =>
  (I12_copy_260 LFU x1 x2 0 v2 0)) else (I12_copy_241))
theorem v_N12_copy_224  {n_x1 : Int32} {x1 : Int} (e_x1 : n_x1 = iI x1) {n_x2 : Int32} {x2 : Int} (e_x2 : n_x2 = iI x2) {n_x4 : Int32} {x4 : Int} (e_x4 : n_x4 = iI x4) : Si iI (N12_copy_224  n_x1 n_x2 n_x4) (I12_copy_224  x1 x2 x4) := by
  subst e_x1
  subst e_x2
  subst e_x4
  unfold N12_copy_224 I12_copy_224
  refine si_b si_gI fun v1 => ?_
  refine si_ig fun h1 => ?_
  refine si_ite (cEq rfl (eLit 16) ⟨h1, (by decide)⟩) ?_ ?_
  · exact v_N12_copy_241
  · refine si_ig fun h2 => ?_
    refine si_ite (cLe rfl (eLit 400) ⟨h2, (by decide)⟩) ?_ ?_
    · refine si_b si_gI fun v2 => ?_
      exact (v_N12_copy_260 LFU rfl rfl (eLit 0) rfl (eLit 0))
    · exact v_N12_copy_241
def I12_copy_190_st (k190 : Int → Int → Int → Int → IM Int) (x1 : Int) (x2 : Int) (x4 : Int) (x5 : Int) : IM Int :=
  ig (R32 x2) <|
  ig (R32 x5) <|
  if x2 ≤ x5 then ((I12_copy_224 x1 x2 x4)) else (ib (iaI 46 x5) fun v1 =>
  ib (iaI 45 x5) fun v2 =>
  (k190 x1 x2 (x4 + ((v1 - v2) + 1)) (x5 + 1)))
theorem v_N12_copy_190_st {n_k190 : Int32 → Int32 → Int32 → Int32 → NM Int32} {k190 : Int → Int → Int → Int → IM Int} (hk190 : ∀ {n0 : Int32} {z0 : Int} (_ : n0 = iI z0) {n1 : Int32} {z1 : Int} (_ : n1 = iI z1) {n2 : Int32} {z2 : Int} (_ : n2 = iI z2) {n3 : Int32} {z3 : Int} (_ : n3 = iI z3), Si iI (n_k190 n0 n1 n2 n3) (k190 z0 z1 z2 z3)) {n_x1 : Int32} {x1 : Int} (e_x1 : n_x1 = iI x1) {n_x2 : Int32} {x2 : Int} (e_x2 : n_x2 = iI x2) {n_x4 : Int32} {x4 : Int} (e_x4 : n_x4 = iI x4) {n_x5 : Int32} {x5 : Int} (e_x5 : n_x5 = iI x5) : Si iI (N12_copy_190_st n_k190 n_x1 n_x2 n_x4 n_x5) (I12_copy_190_st k190 x1 x2 x4 x5) := by
  subst e_x1
  subst e_x2
  subst e_x4
  subst e_x5
  unfold N12_copy_190_st I12_copy_190_st
  refine si_ig fun h1 => ?_
  refine si_ig fun h2 => ?_
  refine si_ite (cLe rfl rfl ⟨h1, h2⟩) ?_ ?_
  · exact (v_N12_copy_224 rfl rfl rfl)
  · refine si_b (si_aI rfl) fun v1 => ?_
    refine si_b (si_aI rfl) fun v2 => ?_
    exact (hk190 rfl rfl (eAdd rfl (eAdd (eSub rfl rfl) (eLit 1))) (eAdd rfl (eLit 1)))
def I12_copy_190 : Nat → Int → Int → Int → Int → IM Int
  | 0 => fun _ _ _ _ => nof
  | n + 1 => fun x1 x2 x4 x5 => I12_copy_190_st  (I12_copy_190  n) x1 x2 x4 x5
theorem v_N12_copy_190  : ∀ (n : Nat) {n_x1 : Int32} {x1 : Int} (e_x1 : n_x1 = iI x1) {n_x2 : Int32} {x2 : Int} (e_x2 : n_x2 = iI x2) {n_x4 : Int32} {x4 : Int} (e_x4 : n_x4 = iI x4) {n_x5 : Int32} {x5 : Int} (e_x5 : n_x5 = iI x5), Si iI (N12_copy_190  n n_x1 n_x2 n_x4 n_x5) (I12_copy_190  n x1 x2 x4 x5) := by
  intro n
  induction n with
  | zero => intro n_x1 x1 e_x1 n_x2 x2 e_x2 n_x4 x4 e_x4 n_x5 x5 e_x5; exact si_nf
  | succ n ih => intro n_x1 x1 e_x1 n_x2 x2 e_x2 n_x4 x4 e_x4 n_x5 x5 e_x5; exact v_N12_copy_190_st  (ih) e_x1 e_x2 e_x4 e_x5
def I12_copy_171 (x1 : Int) (x2 : Int) (x3 : Int) (y0 : Int) : IM Int :=
  ib (ipI 4 y0) fun _ =>
  ig (R32 x3) <|
  if x3 = 0 then ((I12_copy_190 LFU x1 x2 0 0)) else (ib (I12_no 4) fun v1 =>
  ir v1)
theorem v_N12_copy_171  {n_x1 : Int32} {x1 : Int} (e_x1 : n_x1 = iI x1) {n_x2 : Int32} {x2 : Int} (e_x2 : n_x2 = iI x2) {n_x3 : Int32} {x3 : Int} (e_x3 : n_x3 = iI x3) {n_y0 : Int32} {y0 : Int} (e_y0 : n_y0 = iI y0) : Si iI (N12_copy_171  n_x1 n_x2 n_x3 n_y0) (I12_copy_171  x1 x2 x3 y0) := by
  subst e_x1
  subst e_x2
  subst e_x3
  subst e_y0
  unfold N12_copy_171 I12_copy_171
  refine si_b (si_pI rfl) fun _ => ?_
  refine si_ig fun h1 => ?_
  refine si_ite (cEq rfl (eLit 0) ⟨h1, (by decide)⟩) ?_ ?_
  · exact (v_N12_copy_190 LFU rfl rfl (eLit 0) (eLit 0))
  · refine si_b (v_N12_no (eLit 4)) fun v1 => ?_
    exact si_re rfl
def I12_copy_147 (x1 : Int) (x2 : Int) (x3 : Int) : IM Int :=
  ib I12_ends fun v1 =>
  ig (R32 v1) <|
  if v1 = 0 then (ib (I12_no 2) fun v2 =>
  ir v2) else (ig (R32 x3) <|
  if x3 = 0 then ((I12_copy_171 x1 x2 x3 0)) else ((I12_copy_171 x1 x2 x3 7)))
theorem v_N12_copy_147  {n_x1 : Int32} {x1 : Int} (e_x1 : n_x1 = iI x1) {n_x2 : Int32} {x2 : Int} (e_x2 : n_x2 = iI x2) {n_x3 : Int32} {x3 : Int} (e_x3 : n_x3 = iI x3) : Si iI (N12_copy_147  n_x1 n_x2 n_x3) (I12_copy_147  x1 x2 x3) := by
  subst e_x1
  subst e_x2
  subst e_x3
  unfold N12_copy_147 I12_copy_147
  refine si_b v_N12_ends fun v1 => ?_
  refine si_ig fun h1 => ?_
  refine si_ite (cEq rfl (eLit 0) ⟨h1, (by decide)⟩) ?_ ?_
  · refine si_b (v_N12_no (eLit 2)) fun v2 => ?_
    exact si_re rfl
  · refine si_ig fun h2 => ?_
    refine si_ite (cEq rfl (eLit 0) ⟨h2, (by decide)⟩) ?_ ?_
    · exact (v_N12_copy_171 rfl rfl rfl (eLit 0))
    · exact (v_N12_copy_171 rfl rfl rfl (eLit 7))
def I12_copy_129 (k27 : Int → Int → Int → IM Int) (x1 : Int) (x2 : Int) (y0 : Int) : IM Int :=
  ib (igI 23) fun v1 =>
  ig (R32 v1) <|
  if v1 = 0 then ((I12_copy_147 x1 (x2 + 1) y0)) else (ib (igI 21) fun v2 =>
  ig (R32 v2) <|
  if v2 = 0 then ((I12_copy_147 x1 (x2 + 1) y0)) else ((k27 x1 (x2 + 1) y0)))
theorem v_N12_copy_129 {n_k27 : Int32 → Int32 → Int32 → NM Int32} {k27 : Int → Int → Int → IM Int} (hk27 : ∀ {n0 : Int32} {z0 : Int} (_ : n0 = iI z0) {n1 : Int32} {z1 : Int} (_ : n1 = iI z1) {n2 : Int32} {z2 : Int} (_ : n2 = iI z2), Si iI (n_k27 n0 n1 n2) (k27 z0 z1 z2)) {n_x1 : Int32} {x1 : Int} (e_x1 : n_x1 = iI x1) {n_x2 : Int32} {x2 : Int} (e_x2 : n_x2 = iI x2) {n_y0 : Int32} {y0 : Int} (e_y0 : n_y0 = iI y0) : Si iI (N12_copy_129 n_k27 n_x1 n_x2 n_y0) (I12_copy_129 k27 x1 x2 y0) := by
  subst e_x1
  subst e_x2
  subst e_y0
  unfold N12_copy_129 I12_copy_129
  refine si_b si_gI fun v1 => ?_
  refine si_ig fun h1 => ?_
  refine si_ite (cEq rfl (eLit 0) ⟨h1, (by decide)⟩) ?_ ?_
  · exact (v_N12_copy_147 rfl (eAdd rfl (eLit 1)) rfl)
  · refine si_b si_gI fun v2 => ?_
    refine si_ig fun h2 => ?_
    refine si_ite (cEq rfl (eLit 0) ⟨h2, (by decide)⟩) ?_ ?_
    · exact (v_N12_copy_147 rfl (eAdd rfl (eLit 1)) rfl)
    · exact (hk27 rfl (eAdd rfl (eLit 1)) rfl)
def I12_copy_124 (k27 : Int → Int → Int → IM Int) (x1 : Int) (x2 : Int) : IM Int :=
  (I12_copy_129 k27 x1 x2 1)
theorem v_N12_copy_124 {n_k27 : Int32 → Int32 → Int32 → NM Int32} {k27 : Int → Int → Int → IM Int} (hk27 : ∀ {n0 : Int32} {z0 : Int} (_ : n0 = iI z0) {n1 : Int32} {z1 : Int} (_ : n1 = iI z1) {n2 : Int32} {z2 : Int} (_ : n2 = iI z2), Si iI (n_k27 n0 n1 n2) (k27 z0 z1 z2)) {n_x1 : Int32} {x1 : Int} (e_x1 : n_x1 = iI x1) {n_x2 : Int32} {x2 : Int} (e_x2 : n_x2 = iI x2) : Si iI (N12_copy_124 n_k27 n_x1 n_x2) (I12_copy_124 k27 x1 x2) := by
  subst e_x1
  subst e_x2
  unfold N12_copy_124 I12_copy_124
  exact (v_N12_copy_129 hk27 rfl rfl (eLit 1))
def I12_copy_128 (k27 : Int → Int → Int → IM Int) (x1 : Int) (x2 : Int) : IM Int :=
  (I12_copy_129 k27 x1 x2 0)
theorem v_N12_copy_128 {n_k27 : Int32 → Int32 → Int32 → NM Int32} {k27 : Int → Int → Int → IM Int} (hk27 : ∀ {n0 : Int32} {z0 : Int} (_ : n0 = iI z0) {n1 : Int32} {z1 : Int} (_ : n1 = iI z1) {n2 : Int32} {z2 : Int} (_ : n2 = iI z2), Si iI (n_k27 n0 n1 n2) (k27 z0 z1 z2)) {n_x1 : Int32} {x1 : Int} (e_x1 : n_x1 = iI x1) {n_x2 : Int32} {x2 : Int} (e_x2 : n_x2 = iI x2) : Si iI (N12_copy_128 n_k27 n_x1 n_x2) (I12_copy_128 k27 x1 x2) := by
  subst e_x1
  subst e_x2
  unfold N12_copy_128 I12_copy_128
  exact (v_N12_copy_129 hk27 rfl rfl (eLit 0))
def I12_copy_82 (k27 : Int → Int → Int → IM Int) (x1 : Int) (x2 : Int) (x3 : Int) (x4 : Int) : IM Int :=
  ig (R32 x3) <|
  if x3 = 0 then (ib (iaI 45 x2) fun v1 =>
  ig (R32 v1) <|
  if v1 < 0 then ((I12_copy_124 k27 x1 x2)) else (ib (iaI 46 x2) fun v2 =>
  ig (R32 v2) <|
  if v2 < 0 then ((I12_copy_124 k27 x1 x2)) else (ig (R32 x4) <|
  if x4 = 0 then ((I12_copy_128 k27 x1 x2)) else (ib (iaI 46 x2) fun v3 =>
  ib (iaI 45 x2) fun v4 =>
  ig (R32 v4) <|
  ig (R32 v3) <|
  if v4 < v3 then ((I12_copy_128 k27 x1 x2)) else ((I12_copy_124 k27 x1 x2)))))) else ((I12_copy_124 k27 x1 x2))
theorem v_N12_copy_82 {n_k27 : Int32 → Int32 → Int32 → NM Int32} {k27 : Int → Int → Int → IM Int} (hk27 : ∀ {n0 : Int32} {z0 : Int} (_ : n0 = iI z0) {n1 : Int32} {z1 : Int} (_ : n1 = iI z1) {n2 : Int32} {z2 : Int} (_ : n2 = iI z2), Si iI (n_k27 n0 n1 n2) (k27 z0 z1 z2)) {n_x1 : Int32} {x1 : Int} (e_x1 : n_x1 = iI x1) {n_x2 : Int32} {x2 : Int} (e_x2 : n_x2 = iI x2) {n_x3 : Int32} {x3 : Int} (e_x3 : n_x3 = iI x3) {n_x4 : Int32} {x4 : Int} (e_x4 : n_x4 = iI x4) : Si iI (N12_copy_82 n_k27 n_x1 n_x2 n_x3 n_x4) (I12_copy_82 k27 x1 x2 x3 x4) := by
  subst e_x1
  subst e_x2
  subst e_x3
  subst e_x4
  unfold N12_copy_82 I12_copy_82
  refine si_ig fun h1 => ?_
  refine si_ite (cEq rfl (eLit 0) ⟨h1, (by decide)⟩) ?_ ?_
  · refine si_b (si_aI rfl) fun v1 => ?_
    refine si_ig fun h2 => ?_
    refine si_ite (cLt rfl (eLit 0) ⟨h2, (by decide)⟩) ?_ ?_
    · exact (v_N12_copy_124 hk27 rfl rfl)
    · refine si_b (si_aI rfl) fun v2 => ?_
      refine si_ig fun h3 => ?_
      refine si_ite (cLt rfl (eLit 0) ⟨h3, (by decide)⟩) ?_ ?_
      · exact (v_N12_copy_124 hk27 rfl rfl)
      · refine si_ig fun h4 => ?_
        refine si_ite (cEq rfl (eLit 0) ⟨h4, (by decide)⟩) ?_ ?_
        · exact (v_N12_copy_128 hk27 rfl rfl)
        · refine si_b (si_aI rfl) fun v3 => ?_
          refine si_b (si_aI rfl) fun v4 => ?_
          refine si_ig fun h5 => ?_
          refine si_ig fun h6 => ?_
          refine si_ite (cLt rfl rfl ⟨h5, h6⟩) ?_ ?_
          · exact (v_N12_copy_128 hk27 rfl rfl)
          · exact (v_N12_copy_124 hk27 rfl rfl)
  · exact (v_N12_copy_124 hk27 rfl rfl)
def I12_copy_27_st (k27 : Int → Int → Int → IM Int) (x1 : Int) (x2 : Int) (x3 : Int) : IM Int :=
  ib I12_readName fun _ =>
  ib (I12_named x1) fun v1 =>
  ib (isI 45 x2 v1) fun _ =>
  ib (iaI 45 x2) fun v2 =>
  ib (isI 46 x2 v2) fun _ =>
  ib (I12_goes 45) fun v3 =>
  ig (R32 v3) <|
  if v3 = 0 then ((I12_copy_82 k27 x1 x2 x3 v3)) else (ib I12_readName fun _ =>
  ib (I12_named x1) fun v4 =>
  ib (isI 46 x2 v4) fun _ =>
  (I12_copy_82 k27 x1 x2 x3 v3))
theorem v_N12_copy_27_st {n_k27 : Int32 → Int32 → Int32 → NM Int32} {k27 : Int → Int → Int → IM Int} (hk27 : ∀ {n0 : Int32} {z0 : Int} (_ : n0 = iI z0) {n1 : Int32} {z1 : Int} (_ : n1 = iI z1) {n2 : Int32} {z2 : Int} (_ : n2 = iI z2), Si iI (n_k27 n0 n1 n2) (k27 z0 z1 z2)) {n_x1 : Int32} {x1 : Int} (e_x1 : n_x1 = iI x1) {n_x2 : Int32} {x2 : Int} (e_x2 : n_x2 = iI x2) {n_x3 : Int32} {x3 : Int} (e_x3 : n_x3 = iI x3) : Si iI (N12_copy_27_st n_k27 n_x1 n_x2 n_x3) (I12_copy_27_st k27 x1 x2 x3) := by
  subst e_x1
  subst e_x2
  subst e_x3
  unfold N12_copy_27_st I12_copy_27_st
  refine si_b v_N12_readName fun _ => ?_
  refine si_b (v_N12_named rfl) fun v1 => ?_
  refine si_b (si_sI rfl rfl) fun _ => ?_
  refine si_b (si_aI rfl) fun v2 => ?_
  refine si_b (si_sI rfl rfl) fun _ => ?_
  refine si_b (v_N12_goes (eLit 45)) fun v3 => ?_
  refine si_ig fun h1 => ?_
  refine si_ite (cEq rfl (eLit 0) ⟨h1, (by decide)⟩) ?_ ?_
  · exact (v_N12_copy_82 hk27 rfl rfl rfl rfl)
  · refine si_b v_N12_readName fun _ => ?_
    refine si_b (v_N12_named rfl) fun v4 => ?_
    refine si_b (si_sI rfl rfl) fun _ => ?_
    exact (v_N12_copy_82 hk27 rfl rfl rfl rfl)
def I12_copy_27 : Nat → Int → Int → Int → IM Int
  | 0 => fun _ _ _ => nof
  | n + 1 => fun x1 x2 x3 => I12_copy_27_st  (I12_copy_27  n) x1 x2 x3
theorem v_N12_copy_27  : ∀ (n : Nat) {n_x1 : Int32} {x1 : Int} (e_x1 : n_x1 = iI x1) {n_x2 : Int32} {x2 : Int} (e_x2 : n_x2 = iI x2) {n_x3 : Int32} {x3 : Int} (e_x3 : n_x3 = iI x3), Si iI (N12_copy_27  n n_x1 n_x2 n_x3) (I12_copy_27  n x1 x2 x3) := by
  intro n
  induction n with
  | zero => intro n_x1 x1 e_x1 n_x2 x2 e_x2 n_x3 x3 e_x3; exact si_nf
  | succ n ih => intro n_x1 x1 e_x1 n_x2 x2 e_x2 n_x3 x3 e_x3; exact v_N12_copy_27_st  (ih) e_x1 e_x2 e_x3
def I12_copy (a1 : Int) : IM Int :=
  ib (I12_isBook a1) fun v1 =>
  ig (R32 v1) <|
  if v1 = 0 then (ib (ipI 1 0) fun _ =>
  ib (I12_no 1) fun v2 =>
  ir v2) else (ib I12_begins fun _ =>
  (I12_copy_27 LFU a1 0 0))
theorem v_N12_copy  {n_a1 : Int32} {a1 : Int} (e_a1 : n_a1 = iI a1) : Si iI (N12_copy  n_a1) (I12_copy  a1) := by
  subst e_a1
  unfold N12_copy I12_copy
  refine si_b (v_N12_isBook rfl) fun v1 => ?_
  refine si_ig fun h1 => ?_
  refine si_ite (cEq rfl (eLit 0) ⟨h1, (by decide)⟩) ?_ ?_
  · refine si_b (si_pI (eLit 0)) fun _ => ?_
    refine si_b (v_N12_no (eLit 1)) fun v2 => ?_
    exact si_re rfl
  · refine si_b v_N12_begins fun _ => ?_
    exact (v_N12_copy_27 LFU rfl (eLit 0) (eLit 0))
def I12_find (a1 : Int) : IM Int :=
  ib (I12_isBook a1) fun v1 =>
  ig (R32 v1) <|
  if v1 = 0 then (ib (ipI 1 0) fun _ =>
  ib (I12_no 1) fun v2 =>
  ir v2) else (ib I12_begins fun _ =>
  ib I12_readName fun _ =>
  ib I12_ends fun v3 =>
  ig (R32 v3) <|
  if v3 = 0 then (ib (I12_no 2) fun v4 =>
  ir v4) else (ib (I12_named a1) fun v5 =>
  ib (I12_fine v5) fun v6 =>
  ir v6))
theorem v_N12_find  {n_a1 : Int32} {a1 : Int} (e_a1 : n_a1 = iI a1) : Si iI (N12_find  n_a1) (I12_find  a1) := by
  subst e_a1
  unfold N12_find I12_find
  refine si_b (v_N12_isBook rfl) fun v1 => ?_
  refine si_ig fun h1 => ?_
  refine si_ite (cEq rfl (eLit 0) ⟨h1, (by decide)⟩) ?_ ?_
  · refine si_b (si_pI (eLit 0)) fun _ => ?_
    refine si_b (v_N12_no (eLit 1)) fun v2 => ?_
    exact si_re rfl
  · refine si_b v_N12_begins fun _ => ?_
    refine si_b v_N12_readName fun _ => ?_
    refine si_b v_N12_ends fun v3 => ?_
    refine si_ig fun h2 => ?_
    refine si_ite (cEq rfl (eLit 0) ⟨h2, (by decide)⟩) ?_ ?_
    · refine si_b (v_N12_no (eLit 2)) fun v4 => ?_
      exact si_re rfl
    · refine si_b (v_N12_named rfl) fun v5 => ?_
      refine si_b (v_N12_fine rfl) fun v6 => ?_
      exact si_re rfl
def I12_place : IM Int :=
  ib (igI 3) fun v1 =>
  ir v1
theorem v_N12_place  : Si iI (N12_place  ) (I12_place  ) := by
  unfold N12_place I12_place
  refine si_b si_gI fun v1 => ?_
  exact si_re rfl
def I12_fault : IM Int :=
  ib (igI 4) fun v1 =>
  ir v1
theorem v_N12_fault  : Si iI (N12_fault  ) (I12_fault  ) := by
  unfold N12_fault I12_fault
  refine si_b si_gI fun v1 => ?_
  exact si_re rfl
def I12_count (a1 : Int) : IM Int :=
  ig (R32 a1) <|
  if a1 = 0 then (ib (igI 5) fun v1 =>
  ib (I12_fine v1) fun v2 =>
  ir v2) else (if a1 = 1 then (ib (igI 15) fun v3 =>
  ib (I12_fine v3) fun v4 =>
  ir v4) else (if a1 = 2 then (ib (igI 1) fun v5 =>
  ib (I12_fine v5) fun v6 =>
  ir v6) else (ib (I12_no 3) fun v7 =>
  ir v7)))
theorem v_N12_count  {n_a1 : Int32} {a1 : Int} (e_a1 : n_a1 = iI a1) : Si iI (N12_count  n_a1) (I12_count  a1) := by
  subst e_a1
  unfold N12_count I12_count
  refine si_ig fun h1 => ?_
  refine si_ite (cEq rfl (eLit 0) ⟨h1, (by decide)⟩) ?_ ?_
  · refine si_b si_gI fun v1 => ?_
    refine si_b (v_N12_fine rfl) fun v2 => ?_
    exact si_re rfl
  · refine si_ite (cEq rfl (eLit 1) ⟨h1, (by decide)⟩) ?_ ?_
    · refine si_b si_gI fun v3 => ?_
      refine si_b (v_N12_fine rfl) fun v4 => ?_
      exact si_re rfl
    · refine si_ite (cEq rfl (eLit 2) ⟨h1, (by decide)⟩) ?_ ?_
      · refine si_b si_gI fun v5 => ?_
        refine si_b (v_N12_fine rfl) fun v6 => ?_
        exact si_re rfl
      · refine si_b (v_N12_no (eLit 3)) fun v7 => ?_
        exact si_re rfl
def I12_gatherings (a1 : Int) : IM Int :=
  ib (I12_isBook a1) fun v1 =>
  ig (R32 v1) <|
  if v1 = 0 then (ib (I12_no 1) fun v2 =>
  ir v2) else (ib (iaI 6 a1) fun v3 =>
  ib (I12_fine v3) fun v4 =>
  ir v4)
theorem v_N12_gatherings  {n_a1 : Int32} {a1 : Int} (e_a1 : n_a1 = iI a1) : Si iI (N12_gatherings  n_a1) (I12_gatherings  a1) := by
  subst e_a1
  unfold N12_gatherings I12_gatherings
  refine si_b (v_N12_isBook rfl) fun v1 => ?_
  refine si_ig fun h1 => ?_
  refine si_ite (cEq rfl (eLit 0) ⟨h1, (by decide)⟩) ?_ ?_
  · refine si_b (v_N12_no (eLit 1)) fun v2 => ?_
    exact si_re rfl
  · refine si_b (si_aI rfl) fun v3 => ?_
    refine si_b (v_N12_fine rfl) fun v4 => ?_
    exact si_re rfl
def I12_gathering_24 : IM Int :=
  ib (I12_no 1) fun v1 =>
  ir v1
theorem v_N12_gathering_24  : Si iI (N12_gathering_24  ) (I12_gathering_24  ) := by
  unfold N12_gathering_24 I12_gathering_24
  refine si_b (v_N12_no (eLit 1)) fun v1 => ?_
  exact si_re rfl
def I12_gathering_134 (k99 : Int → Int → Int → Int → IM Int) (x1 : Int) (x2 : Int) (x5 : Int) (y0 : Int) (y1 : Int) : IM Int :=
  (k99 x1 x2 (y1 + y0) (x5 + 1))
theorem v_N12_gathering_134 {n_k99 : Int32 → Int32 → Int32 → Int32 → NM Int32} {k99 : Int → Int → Int → Int → IM Int} (hk99 : ∀ {n0 : Int32} {z0 : Int} (_ : n0 = iI z0) {n1 : Int32} {z1 : Int} (_ : n1 = iI z1) {n2 : Int32} {z2 : Int} (_ : n2 = iI z2) {n3 : Int32} {z3 : Int} (_ : n3 = iI z3), Si iI (n_k99 n0 n1 n2 n3) (k99 z0 z1 z2 z3)) {n_x1 : Int32} {x1 : Int} (e_x1 : n_x1 = iI x1) {n_x2 : Int32} {x2 : Int} (e_x2 : n_x2 = iI x2) {n_x5 : Int32} {x5 : Int} (e_x5 : n_x5 = iI x5) {n_y0 : Int32} {y0 : Int} (e_y0 : n_y0 = iI y0) {n_y1 : Int32} {y1 : Int} (e_y1 : n_y1 = iI y1) : Si iI (N12_gathering_134 n_k99 n_x1 n_x2 n_x5 n_y0 n_y1) (I12_gathering_134 k99 x1 x2 x5 y0 y1) := by
  subst e_x1
  subst e_x2
  subst e_x5
  subst e_y0
  subst e_y1
  unfold N12_gathering_134 I12_gathering_134
  exact (hk99 rfl rfl (eAdd rfl rfl) (eAdd rfl (eLit 1)))
def I12_gathering_143 (x4 : Int) : IM Int :=
  ib (I12_fine x4) fun v1 =>
  ir v1
theorem v_N12_gathering_143  {n_x4 : Int32} {x4 : Int} (e_x4 : n_x4 = iI x4) : Si iI (N12_gathering_143  n_x4) (I12_gathering_143  x4) := by
  subst e_x4
  unfold N12_gathering_143 I12_gathering_143
  refine si_b (v_N12_fine rfl) fun v1 => ?_
  exact si_re rfl
def I12_gathering_99_st (k99 : Int → Int → Int → Int → IM Int) (x1 : Int) (x2 : Int) (x4 : Int) (x5 : Int) : IM Int :=
  ib (iaI 11 x1) fun v1 =>
  ig (R32 v1) <|
  ig (R32 x5) <|
  if v1 ≤ x5 then ((I12_gathering_143 x4)) else (ib (iaI 12 ((x1 * 400) + x5)) fun v2 =>
  ig (R32 v2) <|
  ig (R32 x2) <|
  if v2 = x2 then ((I12_gathering_134 k99 x1 x2 x5 1 x4)) else ((I12_gathering_134 k99 x1 x2 x5 0 x4)))
theorem v_N12_gathering_99_st {n_k99 : Int32 → Int32 → Int32 → Int32 → NM Int32} {k99 : Int → Int → Int → Int → IM Int} (hk99 : ∀ {n0 : Int32} {z0 : Int} (_ : n0 = iI z0) {n1 : Int32} {z1 : Int} (_ : n1 = iI z1) {n2 : Int32} {z2 : Int} (_ : n2 = iI z2) {n3 : Int32} {z3 : Int} (_ : n3 = iI z3), Si iI (n_k99 n0 n1 n2 n3) (k99 z0 z1 z2 z3)) {n_x1 : Int32} {x1 : Int} (e_x1 : n_x1 = iI x1) {n_x2 : Int32} {x2 : Int} (e_x2 : n_x2 = iI x2) {n_x4 : Int32} {x4 : Int} (e_x4 : n_x4 = iI x4) {n_x5 : Int32} {x5 : Int} (e_x5 : n_x5 = iI x5) : Si iI (N12_gathering_99_st n_k99 n_x1 n_x2 n_x4 n_x5) (I12_gathering_99_st k99 x1 x2 x4 x5) := by
  subst e_x1
  subst e_x2
  subst e_x4
  subst e_x5
  unfold N12_gathering_99_st I12_gathering_99_st
  refine si_b (si_aI rfl) fun v1 => ?_
  refine si_ig fun h1 => ?_
  refine si_ig fun h2 => ?_
  refine si_ite (cLe rfl rfl ⟨h1, h2⟩) ?_ ?_
  · exact (v_N12_gathering_143 rfl)
  · refine si_b (si_aI (eAdd (eMul rfl (eLit 400)) rfl)) fun v2 => ?_
    refine si_ig fun h3 => ?_
    refine si_ig fun h4 => ?_
    refine si_ite (cEq rfl rfl ⟨h3, h4⟩) ?_ ?_
    · exact (v_N12_gathering_134 hk99 rfl rfl rfl (eLit 1) rfl)
    · exact (v_N12_gathering_134 hk99 rfl rfl rfl (eLit 0) rfl)
def I12_gathering_99 : Nat → Int → Int → Int → Int → IM Int
  | 0 => fun _ _ _ _ => nof
  | n + 1 => fun x1 x2 x4 x5 => I12_gathering_99_st  (I12_gathering_99  n) x1 x2 x4 x5
theorem v_N12_gathering_99  : ∀ (n : Nat) {n_x1 : Int32} {x1 : Int} (e_x1 : n_x1 = iI x1) {n_x2 : Int32} {x2 : Int} (e_x2 : n_x2 = iI x2) {n_x4 : Int32} {x4 : Int} (e_x4 : n_x4 = iI x4) {n_x5 : Int32} {x5 : Int} (e_x5 : n_x5 = iI x5), Si iI (N12_gathering_99  n n_x1 n_x2 n_x4 n_x5) (I12_gathering_99  n x1 x2 x4 x5) := by
  intro n
  induction n with
  | zero => intro n_x1 x1 e_x1 n_x2 x2 e_x2 n_x4 x4 e_x4 n_x5 x5 e_x5; exact si_nf
  | succ n ih => intro n_x1 x1 e_x1 n_x2 x2 e_x2 n_x4 x4 e_x4 n_x5 x5 e_x5; exact v_N12_gathering_99_st  (ih) e_x1 e_x2 e_x4 e_x5
def I12_gathering_192 (k153 : Int → Int → Int → Int → IM Int) (x1 : Int) (x2 : Int) (x5 : Int) (y0 : Int) (y1 : Int) : IM Int :=
  (k153 x1 x2 (y1 + y0) (x5 + 1))
theorem v_N12_gathering_192 {n_k153 : Int32 → Int32 → Int32 → Int32 → NM Int32} {k153 : Int → Int → Int → Int → IM Int} (hk153 : ∀ {n0 : Int32} {z0 : Int} (_ : n0 = iI z0) {n1 : Int32} {z1 : Int} (_ : n1 = iI z1) {n2 : Int32} {z2 : Int} (_ : n2 = iI z2) {n3 : Int32} {z3 : Int} (_ : n3 = iI z3), Si iI (n_k153 n0 n1 n2 n3) (k153 z0 z1 z2 z3)) {n_x1 : Int32} {x1 : Int} (e_x1 : n_x1 = iI x1) {n_x2 : Int32} {x2 : Int} (e_x2 : n_x2 = iI x2) {n_x5 : Int32} {x5 : Int} (e_x5 : n_x5 = iI x5) {n_y0 : Int32} {y0 : Int} (e_y0 : n_y0 = iI y0) {n_y1 : Int32} {y1 : Int} (e_y1 : n_y1 = iI y1) : Si iI (N12_gathering_192 n_k153 n_x1 n_x2 n_x5 n_y0 n_y1) (I12_gathering_192 k153 x1 x2 x5 y0 y1) := by
  subst e_x1
  subst e_x2
  subst e_x5
  subst e_y0
  subst e_y1
  unfold N12_gathering_192 I12_gathering_192
  exact (hk153 rfl rfl (eAdd rfl rfl) (eAdd rfl (eLit 1)))
def I12_gathering_201 (x4 : Int) : IM Int :=
  ib (I12_fine x4) fun v1 =>
  ir v1
theorem v_N12_gathering_201  {n_x4 : Int32} {x4 : Int} (e_x4 : n_x4 = iI x4) : Si iI (N12_gathering_201  n_x4) (I12_gathering_201  x4) := by
  subst e_x4
  unfold N12_gathering_201 I12_gathering_201
  refine si_b (v_N12_fine rfl) fun v1 => ?_
  exact si_re rfl
def I12_gathering_153_st (k153 : Int → Int → Int → Int → IM Int) (x1 : Int) (x2 : Int) (x4 : Int) (x5 : Int) : IM Int :=
  ib (iaI 8 ((x1 * 71) + x2)) fun v1 =>
  ig (R32 v1) <|
  ig (R32 x5) <|
  if v1 < x5 then ((I12_gathering_201 x4)) else (ib (I12_spot x1 x2 x5) fun v2 =>
  ib (iaI 9 v2) fun v3 =>
  ig (R32 v3) <|
  if v3 = 1 then ((I12_gathering_192 k153 x1 x2 x5 1 x4)) else ((I12_gathering_192 k153 x1 x2 x5 0 x4)))
theorem v_N12_gathering_153_st {n_k153 : Int32 → Int32 → Int32 → Int32 → NM Int32} {k153 : Int → Int → Int → Int → IM Int} (hk153 : ∀ {n0 : Int32} {z0 : Int} (_ : n0 = iI z0) {n1 : Int32} {z1 : Int} (_ : n1 = iI z1) {n2 : Int32} {z2 : Int} (_ : n2 = iI z2) {n3 : Int32} {z3 : Int} (_ : n3 = iI z3), Si iI (n_k153 n0 n1 n2 n3) (k153 z0 z1 z2 z3)) {n_x1 : Int32} {x1 : Int} (e_x1 : n_x1 = iI x1) {n_x2 : Int32} {x2 : Int} (e_x2 : n_x2 = iI x2) {n_x4 : Int32} {x4 : Int} (e_x4 : n_x4 = iI x4) {n_x5 : Int32} {x5 : Int} (e_x5 : n_x5 = iI x5) : Si iI (N12_gathering_153_st n_k153 n_x1 n_x2 n_x4 n_x5) (I12_gathering_153_st k153 x1 x2 x4 x5) := by
  subst e_x1
  subst e_x2
  subst e_x4
  subst e_x5
  unfold N12_gathering_153_st I12_gathering_153_st
  refine si_b (si_aI (eAdd (eMul rfl (eLit 71)) rfl)) fun v1 => ?_
  refine si_ig fun h1 => ?_
  refine si_ig fun h2 => ?_
  refine si_ite (cLt rfl rfl ⟨h1, h2⟩) ?_ ?_
  · exact (v_N12_gathering_201 rfl)
  · refine si_b (v_N12_spot rfl rfl rfl) fun v2 => ?_
    refine si_b (si_aI rfl) fun v3 => ?_
    refine si_ig fun h3 => ?_
    refine si_ite (cEq rfl (eLit 1) ⟨h3, (by decide)⟩) ?_ ?_
    · exact (v_N12_gathering_192 hk153 rfl rfl rfl (eLit 1) rfl)
    · exact (v_N12_gathering_192 hk153 rfl rfl rfl (eLit 0) rfl)
def I12_gathering_153 : Nat → Int → Int → Int → Int → IM Int
  | 0 => fun _ _ _ _ => nof
  | n + 1 => fun x1 x2 x4 x5 => I12_gathering_153_st  (I12_gathering_153  n) x1 x2 x4 x5
theorem v_N12_gathering_153  : ∀ (n : Nat) {n_x1 : Int32} {x1 : Int} (e_x1 : n_x1 = iI x1) {n_x2 : Int32} {x2 : Int} (e_x2 : n_x2 = iI x2) {n_x4 : Int32} {x4 : Int} (e_x4 : n_x4 = iI x4) {n_x5 : Int32} {x5 : Int} (e_x5 : n_x5 = iI x5), Si iI (N12_gathering_153  n n_x1 n_x2 n_x4 n_x5) (I12_gathering_153  n x1 x2 x4 x5) := by
  intro n
  induction n with
  | zero => intro n_x1 x1 e_x1 n_x2 x2 e_x2 n_x4 x4 e_x4 n_x5 x5 e_x5; exact si_nf
  | succ n ih => intro n_x1 x1 e_x1 n_x2 x2 e_x2 n_x4 x4 e_x4 n_x5 x5 e_x5; exact v_N12_gathering_153_st  (ih) e_x1 e_x2 e_x4 e_x5
def I12_gathering (a1 : Int) (a2 : Int) (a3 : Int) : IM Int :=
  ib (I12_isBook a1) fun v1 =>
  ig (R32 v1) <|
  if v1 = 0 then (I12_gathering_24) else (ib (iaI 6 a1) fun v2 =>
  ib (I12_isIn a2 0 (v2 - 1)) fun v3 =>
  ig (R32 v3) <|
  if v3 = 0 then (I12_gathering_24) else (ig (R32 a3) <|
  if a3 = 0 then (ib (iaI 7 ((a1 * 71) + a2)) fun v4 =>
  ib (I12_fine v4) fun v5 =>
  ir v5) else (if a3 = 1 then (ib (iaI 8 ((a1 * 71) + a2)) fun v6 =>
  ib (I12_fine v6) fun v7 =>
  ir v7) else (if a3 = 2 then ((I12_gathering_99 LFU a1 a2 0 0)) else (if a3 = 3 then ((I12_gathering_153 LFU a1 a2 0 1)) else (ib (I12_no 3) fun v8 =>
  ir v8))))))
theorem v_N12_gathering  {n_a1 : Int32} {a1 : Int} (e_a1 : n_a1 = iI a1) {n_a2 : Int32} {a2 : Int} (e_a2 : n_a2 = iI a2) {n_a3 : Int32} {a3 : Int} (e_a3 : n_a3 = iI a3) : Si iI (N12_gathering  n_a1 n_a2 n_a3) (I12_gathering  a1 a2 a3) := by
  subst e_a1
  subst e_a2
  subst e_a3
  unfold N12_gathering I12_gathering
  refine si_b (v_N12_isBook rfl) fun v1 => ?_
  refine si_ig fun h1 => ?_
  refine si_ite (cEq rfl (eLit 0) ⟨h1, (by decide)⟩) ?_ ?_
  · exact v_N12_gathering_24
  · refine si_b (si_aI rfl) fun v2 => ?_
    refine si_b (v_N12_isIn rfl (eLit 0) (eSub rfl (eLit 1))) fun v3 => ?_
    refine si_ig fun h2 => ?_
    refine si_ite (cEq rfl (eLit 0) ⟨h2, (by decide)⟩) ?_ ?_
    · exact v_N12_gathering_24
    · refine si_ig fun h3 => ?_
      refine si_ite (cEq rfl (eLit 0) ⟨h3, (by decide)⟩) ?_ ?_
      · refine si_b (si_aI (eAdd (eMul rfl (eLit 71)) rfl)) fun v4 => ?_
        refine si_b (v_N12_fine rfl) fun v5 => ?_
        exact si_re rfl
      · refine si_ite (cEq rfl (eLit 1) ⟨h3, (by decide)⟩) ?_ ?_
        · refine si_b (si_aI (eAdd (eMul rfl (eLit 71)) rfl)) fun v6 => ?_
          refine si_b (v_N12_fine rfl) fun v7 => ?_
          exact si_re rfl
        · refine si_ite (cEq rfl (eLit 2) ⟨h3, (by decide)⟩) ?_ ?_
          · exact (v_N12_gathering_99 LFU rfl rfl (eLit 0) (eLit 0))
          · refine si_ite (cEq rfl (eLit 3) ⟨h3, (by decide)⟩) ?_ ?_
            · exact (v_N12_gathering_153 LFU rfl rfl (eLit 0) (eLit 1))
            · refine si_b (v_N12_no (eLit 3)) fun v8 => ?_
              exact si_re rfl
def I12_leaves (a1 : Int) : IM Int :=
  ib (I12_isBook a1) fun v1 =>
  ig (R32 v1) <|
  if v1 = 0 then (ib (I12_no 1) fun v2 =>
  ir v2) else (ib (iaI 11 a1) fun v3 =>
  ib (I12_fine v3) fun v4 =>
  ir v4)
theorem v_N12_leaves  {n_a1 : Int32} {a1 : Int} (e_a1 : n_a1 = iI a1) : Si iI (N12_leaves  n_a1) (I12_leaves  a1) := by
  subst e_a1
  unfold N12_leaves I12_leaves
  refine si_b (v_N12_isBook rfl) fun v1 => ?_
  refine si_ig fun h1 => ?_
  refine si_ite (cEq rfl (eLit 0) ⟨h1, (by decide)⟩) ?_ ?_
  · refine si_b (v_N12_no (eLit 1)) fun v2 => ?_
    exact si_re rfl
  · refine si_b (si_aI rfl) fun v3 => ?_
    refine si_b (v_N12_fine rfl) fun v4 => ?_
    exact si_re rfl
def I12_isLeaf (a1 : Int) (a2 : Int) : IM Int :=
  ib (I12_isBook a1) fun v1 =>
  ig (R32 v1) <|
  if v1 = 0 then (ir 0) else (ib (iaI 11 a1) fun v2 =>
  ib (I12_isIn a2 0 (v2 - 1)) fun v3 =>
  ig (R32 v3) <|
  if v3 = 0 then (ir 0) else (ir 1))
theorem v_N12_isLeaf  {n_a1 : Int32} {a1 : Int} (e_a1 : n_a1 = iI a1) {n_a2 : Int32} {a2 : Int} (e_a2 : n_a2 = iI a2) : Si iI (N12_isLeaf  n_a1 n_a2) (I12_isLeaf  a1 a2) := by
  subst e_a1
  subst e_a2
  unfold N12_isLeaf I12_isLeaf
  refine si_b (v_N12_isBook rfl) fun v1 => ?_
  refine si_ig fun h1 => ?_
  refine si_ite (cEq rfl (eLit 0) ⟨h1, (by decide)⟩) ?_ ?_
  · exact si_re (eLit 0)
  · refine si_b (si_aI rfl) fun v2 => ?_
    refine si_b (v_N12_isIn rfl (eLit 0) (eSub rfl (eLit 1))) fun v3 => ?_
    refine si_ig fun h2 => ?_
    refine si_ite (cEq rfl (eLit 0) ⟨h2, (by decide)⟩) ?_ ?_
    · exact si_re (eLit 0)
    · exact si_re (eLit 1)
def I12_leaf_113 (y0 : Int) : IM Int :=
  ib (I12_fine y0) fun v1 =>
  ir v1
theorem v_N12_leaf_113  {n_y0 : Int32} {y0 : Int} (e_y0 : n_y0 = iI y0) : Si iI (N12_leaf_113  n_y0) (I12_leaf_113  y0) := by
  subst e_y0
  unfold N12_leaf_113 I12_leaf_113
  refine si_b (v_N12_fine rfl) fun v1 => ?_
  exact si_re rfl
def I12_leaf (a1 : Int) (a2 : Int) (a3 : Int) : IM Int :=
  ib (I12_isLeaf a1 a2) fun v1 =>
  ig (R32 v1) <|
  if v1 = 0 then (ib (I12_no 1) fun v2 =>
  ir v2) else (ig (R32 a3) <|
  if a3 = 0 then (ib (iaI 12 ((a1 * 400) + a2)) fun v3 =>
  ib (I12_fine v3) fun v4 =>
  ir v4) else (if a3 = 1 then (ib (iaI 13 ((a1 * 400) + a2)) fun v5 =>
  ib (I12_fine v5) fun v6 =>
  ir v6) else (if a3 = 2 then (ib (iaI 14 ((a1 * 400) + a2)) fun v7 =>
  ig (R32 v7) <|
  if v7 ≤ 0 then (ib (I12_isPlain a1 a2) fun v8 =>
  ig (R32 v8) <|
  if v8 = 0 then ((I12_leaf_113 1)) else ((I12_leaf_113 0))) else ((I12_leaf_113 2))) else (if a3 = 3 then (ib (iaI 14 ((a1 * 400) + a2)) fun v9 =>
  ib (I12_fine v9) fun v10 =>
  ir v10) else (if a3 = 4 then (ib (I12_conjugate a1 a2) fun v11 =>
  ib (I12_fine v11) fun v12 =>
  ir v12) else (ib (I12_no 3) fun v13 =>
  ir v13))))))
theorem v_N12_leaf  {n_a1 : Int32} {a1 : Int} (e_a1 : n_a1 = iI a1) {n_a2 : Int32} {a2 : Int} (e_a2 : n_a2 = iI a2) {n_a3 : Int32} {a3 : Int} (e_a3 : n_a3 = iI a3) : Si iI (N12_leaf  n_a1 n_a2 n_a3) (I12_leaf  a1 a2 a3) := by
  subst e_a1
  subst e_a2
  subst e_a3
  unfold N12_leaf I12_leaf
  refine si_b (v_N12_isLeaf rfl rfl) fun v1 => ?_
  refine si_ig fun h1 => ?_
  refine si_ite (cEq rfl (eLit 0) ⟨h1, (by decide)⟩) ?_ ?_
  · refine si_b (v_N12_no (eLit 1)) fun v2 => ?_
    exact si_re rfl
  · refine si_ig fun h2 => ?_
    refine si_ite (cEq rfl (eLit 0) ⟨h2, (by decide)⟩) ?_ ?_
    · refine si_b (si_aI (eAdd (eMul rfl (eLit 400)) rfl)) fun v3 => ?_
      refine si_b (v_N12_fine rfl) fun v4 => ?_
      exact si_re rfl
    · refine si_ite (cEq rfl (eLit 1) ⟨h2, (by decide)⟩) ?_ ?_
      · refine si_b (si_aI (eAdd (eMul rfl (eLit 400)) rfl)) fun v5 => ?_
        refine si_b (v_N12_fine rfl) fun v6 => ?_
        exact si_re rfl
      · refine si_ite (cEq rfl (eLit 2) ⟨h2, (by decide)⟩) ?_ ?_
        · refine si_b (si_aI (eAdd (eMul rfl (eLit 400)) rfl)) fun v7 => ?_
          refine si_ig fun h3 => ?_
          refine si_ite (cLe rfl (eLit 0) ⟨h3, (by decide)⟩) ?_ ?_
          · refine si_b (v_N12_isPlain rfl rfl) fun v8 => ?_
            refine si_ig fun h4 => ?_
            refine si_ite (cEq rfl (eLit 0) ⟨h4, (by decide)⟩) ?_ ?_
            · exact (v_N12_leaf_113 (eLit 1))
            · exact (v_N12_leaf_113 (eLit 0))
          · exact (v_N12_leaf_113 (eLit 2))
        · refine si_ite (cEq rfl (eLit 3) ⟨h2, (by decide)⟩) ?_ ?_
          · refine si_b (si_aI (eAdd (eMul rfl (eLit 400)) rfl)) fun v9 => ?_
            refine si_b (v_N12_fine rfl) fun v10 => ?_
            exact si_re rfl
          · refine si_ite (cEq rfl (eLit 4) ⟨h2, (by decide)⟩) ?_ ?_
            · refine si_b (v_N12_conjugate rfl rfl) fun v11 => ?_
              refine si_b (v_N12_fine rfl) fun v12 => ?_
              exact si_re rfl
            · refine si_b (v_N12_no (eLit 3)) fun v13 => ?_
              exact si_re rfl
def I12_letter (a1 : Int) (a2 : Int) : IM Int :=
  ib (I12_isBook a1) fun v1 =>
  ig (R32 v1) <|
  if v1 = 0 then (ib (I12_no 1) fun v2 =>
  ir v2) else (ib (I12_writeBook a1) fun _ =>
  ib (I12_tell a2) fun v3 =>
  ir v3)
theorem v_N12_letter  {n_a1 : Int32} {a1 : Int} (e_a1 : n_a1 = iI a1) {n_a2 : Int32} {a2 : Int} (e_a2 : n_a2 = iI a2) : Si iI (N12_letter  n_a1 n_a2) (I12_letter  a1 a2) := by
  subst e_a1
  subst e_a2
  unfold N12_letter I12_letter
  refine si_b (v_N12_isBook rfl) fun v1 => ?_
  refine si_ig fun h1 => ?_
  refine si_ite (cEq rfl (eLit 0) ⟨h1, (by decide)⟩) ?_ ?_
  · refine si_b (v_N12_no (eLit 1)) fun v2 => ?_
    exact si_re rfl
  · refine si_b (v_N12_writeBook rfl) fun _ => ?_
    refine si_b (v_N12_tell rfl) fun v3 => ?_
    exact si_re rfl
def I12_name (a1 : Int) (a2 : Int) (a3 : Int) : IM Int :=
  ib (I12_isLeaf a1 a2) fun v1 =>
  ig (R32 v1) <|
  if v1 = 0 then (ib (I12_no 1) fun v2 =>
  ir v2) else (ib (ipI 37 0) fun _ =>
  ib (I12_writeName a1 a2) fun _ =>
  ib (I12_tell a3) fun v3 =>
  ir v3)
theorem v_N12_name  {n_a1 : Int32} {a1 : Int} (e_a1 : n_a1 = iI a1) {n_a2 : Int32} {a2 : Int} (e_a2 : n_a2 = iI a2) {n_a3 : Int32} {a3 : Int} (e_a3 : n_a3 = iI a3) : Si iI (N12_name  n_a1 n_a2 n_a3) (I12_name  a1 a2 a3) := by
  subst e_a1
  subst e_a2
  subst e_a3
  unfold N12_name I12_name
  refine si_b (v_N12_isLeaf rfl rfl) fun v1 => ?_
  refine si_ig fun h1 => ?_
  refine si_ite (cEq rfl (eLit 0) ⟨h1, (by decide)⟩) ?_ ?_
  · refine si_b (v_N12_no (eLit 1)) fun v2 => ?_
    exact si_re rfl
  · refine si_b (si_pI (eLit 0)) fun _ => ?_
    refine si_b (v_N12_writeName rfl rfl) fun _ => ?_
    refine si_b (v_N12_tell rfl) fun v3 => ?_
    exact si_re rfl
def I12_same_16 : IM Int :=
  ib (I12_no 1) fun v1 =>
  ir v1
theorem v_N12_same_16  : Si iI (N12_same_16  ) (I12_same_16  ) := by
  unfold N12_same_16 I12_same_16
  refine si_b (v_N12_no (eLit 1)) fun v1 => ?_
  exact si_re rfl
def I12_same_117 (k84 : Int → Int → Int → IM Int) (x3 : Int) (x5 : Int) (y0 : Int) : IM Int :=
  (k84 x3 y0 (x5 + 1))
theorem v_N12_same_117 {n_k84 : Int32 → Int32 → Int32 → NM Int32} {k84 : Int → Int → Int → IM Int} (hk84 : ∀ {n0 : Int32} {z0 : Int} (_ : n0 = iI z0) {n1 : Int32} {z1 : Int} (_ : n1 = iI z1) {n2 : Int32} {z2 : Int} (_ : n2 = iI z2), Si iI (n_k84 n0 n1 n2) (k84 z0 z1 z2)) {n_x3 : Int32} {x3 : Int} (e_x3 : n_x3 = iI x3) {n_x5 : Int32} {x5 : Int} (e_x5 : n_x5 = iI x5) {n_y0 : Int32} {y0 : Int} (e_y0 : n_y0 = iI y0) : Si iI (N12_same_117 n_k84 n_x3 n_x5 n_y0) (I12_same_117 k84 x3 x5 y0) := by
  subst e_x3
  subst e_x5
  subst e_y0
  unfold N12_same_117 I12_same_117
  exact (hk84 rfl rfl (eAdd rfl (eLit 1)))
def I12_same_136 (y0 : Int) : IM Int :=
  ib (I12_fine y0) fun v1 =>
  ir v1
theorem v_N12_same_136  {n_y0 : Int32} {y0 : Int} (e_y0 : n_y0 = iI y0) : Si iI (N12_same_136  n_y0) (I12_same_136  y0) := by
  subst e_y0
  unfold N12_same_136 I12_same_136
  refine si_b (v_N12_fine rfl) fun v1 => ?_
  exact si_re rfl
def I12_same_125 (x4 : Int) : IM Int :=
  ig (R32 x4) <|
  if x4 = 0 then ((I12_same_136 0)) else ((I12_same_136 1))
theorem v_N12_same_125  {n_x4 : Int32} {x4 : Int} (e_x4 : n_x4 = iI x4) : Si iI (N12_same_125  n_x4) (I12_same_125  x4) := by
  subst e_x4
  unfold N12_same_125 I12_same_125
  refine si_ig fun h1 => ?_
  refine si_ite (cEq rfl (eLit 0) ⟨h1, (by decide)⟩) ?_ ?_
  · exact (v_N12_same_136 (eLit 0))
  · exact (v_N12_same_136 (eLit 1))
def I12_same_84_st (k84 : Int → Int → Int → IM Int) (x3 : Int) (x4 : Int) (x5 : Int) : IM Int :=
  ig (R32 x3) <|
  ig (R32 x5) <|
  if x3 ≤ x5 then ((I12_same_125 x4)) else (ig (R32 x4) <|
  if x4 = 0 then ((I12_same_125 x4)) else (ib (iaI 38 x5) fun v1 =>
  ib (iaI 36 x5) fun v2 =>
  ig (R32 v1) <|
  ig (R32 v2) <|
  if v1 = v2 then ((I12_same_117 k84 x3 x5 1)) else ((I12_same_117 k84 x3 x5 0))))
theorem v_N12_same_84_st {n_k84 : Int32 → Int32 → Int32 → NM Int32} {k84 : Int → Int → Int → IM Int} (hk84 : ∀ {n0 : Int32} {z0 : Int} (_ : n0 = iI z0) {n1 : Int32} {z1 : Int} (_ : n1 = iI z1) {n2 : Int32} {z2 : Int} (_ : n2 = iI z2), Si iI (n_k84 n0 n1 n2) (k84 z0 z1 z2)) {n_x3 : Int32} {x3 : Int} (e_x3 : n_x3 = iI x3) {n_x4 : Int32} {x4 : Int} (e_x4 : n_x4 = iI x4) {n_x5 : Int32} {x5 : Int} (e_x5 : n_x5 = iI x5) : Si iI (N12_same_84_st n_k84 n_x3 n_x4 n_x5) (I12_same_84_st k84 x3 x4 x5) := by
  subst e_x3
  subst e_x4
  subst e_x5
  unfold N12_same_84_st I12_same_84_st
  refine si_ig fun h1 => ?_
  refine si_ig fun h2 => ?_
  refine si_ite (cLe rfl rfl ⟨h1, h2⟩) ?_ ?_
  · exact (v_N12_same_125 rfl)
  · refine si_ig fun h3 => ?_
    refine si_ite (cEq rfl (eLit 0) ⟨h3, (by decide)⟩) ?_ ?_
    · exact (v_N12_same_125 rfl)
    · refine si_b (si_aI rfl) fun v1 => ?_
      refine si_b (si_aI rfl) fun v2 => ?_
      refine si_ig fun h4 => ?_
      refine si_ig fun h5 => ?_
      refine si_ite (cEq rfl rfl ⟨h4, h5⟩) ?_ ?_
      · exact (v_N12_same_117 hk84 rfl rfl (eLit 1))
      · exact (v_N12_same_117 hk84 rfl rfl (eLit 0))
def I12_same_84 : Nat → Int → Int → Int → IM Int
  | 0 => fun _ _ _ => nof
  | n + 1 => fun x3 x4 x5 => I12_same_84_st  (I12_same_84  n) x3 x4 x5
theorem v_N12_same_84  : ∀ (n : Nat) {n_x3 : Int32} {x3 : Int} (e_x3 : n_x3 = iI x3) {n_x4 : Int32} {x4 : Int} (e_x4 : n_x4 = iI x4) {n_x5 : Int32} {x5 : Int} (e_x5 : n_x5 = iI x5), Si iI (N12_same_84  n n_x3 n_x4 n_x5) (I12_same_84  n x3 x4 x5) := by
  intro n
  induction n with
  | zero => intro n_x3 x3 e_x3 n_x4 x4 e_x4 n_x5 x5 e_x5; exact si_nf
  | succ n ih => intro n_x3 x3 e_x3 n_x4 x4 e_x4 n_x5 x5 e_x5; exact v_N12_same_84_st  (ih) e_x3 e_x4 e_x5
def I12_same_79 (x3 : Int) (y0 : Int) : IM Int :=
  (I12_same_84 LFU x3 y0 0)
theorem v_N12_same_79  {n_x3 : Int32} {x3 : Int} (e_x3 : n_x3 = iI x3) {n_y0 : Int32} {y0 : Int} (e_y0 : n_y0 = iI y0) : Si iI (N12_same_79  n_x3 n_y0) (I12_same_79  x3 y0) := by
  subst e_x3
  subst e_y0
  unfold N12_same_79 I12_same_79
  exact (v_N12_same_84 LFU rfl rfl (eLit 0))
def I12_same_61 (x2 : Int) (x3 : Int) : IM Int :=
  ib (I12_writeBook x2) fun _ =>
  ib (igI 37) fun v1 =>
  ig (R32 v1) <|
  ig (R32 x3) <|
  if v1 = x3 then ((I12_same_79 x3 1)) else ((I12_same_79 x3 0))
theorem v_N12_same_61  {n_x2 : Int32} {x2 : Int} (e_x2 : n_x2 = iI x2) {n_x3 : Int32} {x3 : Int} (e_x3 : n_x3 = iI x3) : Si iI (N12_same_61  n_x2 n_x3) (I12_same_61  x2 x3) := by
  subst e_x2
  subst e_x3
  unfold N12_same_61 I12_same_61
  refine si_b (v_N12_writeBook rfl) fun _ => ?_
  refine si_b si_gI fun v1 => ?_
  refine si_ig fun h1 => ?_
  refine si_ig fun h2 => ?_
  refine si_ite (cEq rfl rfl ⟨h1, h2⟩) ?_ ?_
  · exact (v_N12_same_79 rfl (eLit 1))
  · exact (v_N12_same_79 rfl (eLit 0))
def I12_same_35_st (k35 : Int → Int → Int → IM Int) (x2 : Int) (x3 : Int) (x4 : Int) : IM Int :=
  ig (R32 x3) <|
  ig (R32 x4) <|
  if x3 ≤ x4 then ((I12_same_61 x2 x3)) else (ib (iaI 36 x4) fun v1 =>
  ib (isI 38 x4 v1) fun _ =>
  (k35 x2 x3 (x4 + 1)))
theorem v_N12_same_35_st {n_k35 : Int32 → Int32 → Int32 → NM Int32} {k35 : Int → Int → Int → IM Int} (hk35 : ∀ {n0 : Int32} {z0 : Int} (_ : n0 = iI z0) {n1 : Int32} {z1 : Int} (_ : n1 = iI z1) {n2 : Int32} {z2 : Int} (_ : n2 = iI z2), Si iI (n_k35 n0 n1 n2) (k35 z0 z1 z2)) {n_x2 : Int32} {x2 : Int} (e_x2 : n_x2 = iI x2) {n_x3 : Int32} {x3 : Int} (e_x3 : n_x3 = iI x3) {n_x4 : Int32} {x4 : Int} (e_x4 : n_x4 = iI x4) : Si iI (N12_same_35_st n_k35 n_x2 n_x3 n_x4) (I12_same_35_st k35 x2 x3 x4) := by
  subst e_x2
  subst e_x3
  subst e_x4
  unfold N12_same_35_st I12_same_35_st
  refine si_ig fun h1 => ?_
  refine si_ig fun h2 => ?_
  refine si_ite (cLe rfl rfl ⟨h1, h2⟩) ?_ ?_
  · exact (v_N12_same_61 rfl rfl)
  · refine si_b (si_aI rfl) fun v1 => ?_
    refine si_b (si_sI rfl rfl) fun _ => ?_
    exact (hk35 rfl rfl (eAdd rfl (eLit 1)))
def I12_same_35 : Nat → Int → Int → Int → IM Int
  | 0 => fun _ _ _ => nof
  | n + 1 => fun x2 x3 x4 => I12_same_35_st  (I12_same_35  n) x2 x3 x4
theorem v_N12_same_35  : ∀ (n : Nat) {n_x2 : Int32} {x2 : Int} (e_x2 : n_x2 = iI x2) {n_x3 : Int32} {x3 : Int} (e_x3 : n_x3 = iI x3) {n_x4 : Int32} {x4 : Int} (e_x4 : n_x4 = iI x4), Si iI (N12_same_35  n n_x2 n_x3 n_x4) (I12_same_35  n x2 x3 x4) := by
  intro n
  induction n with
  | zero => intro n_x2 x2 e_x2 n_x3 x3 e_x3 n_x4 x4 e_x4; exact si_nf
  | succ n ih => intro n_x2 x2 e_x2 n_x3 x3 e_x3 n_x4 x4 e_x4; exact v_N12_same_35_st  (ih) e_x2 e_x3 e_x4
def I12_same (a1 : Int) (a2 : Int) : IM Int :=
  ib (I12_isBook a1) fun v1 =>
  ig (R32 v1) <|
  if v1 = 0 then (I12_same_16) else (ib (I12_isBook a2) fun v2 =>
  ig (R32 v2) <|
  if v2 = 0 then (I12_same_16) else (ib (I12_writeBook a1) fun _ =>
  ib (igI 37) fun v3 =>
  (I12_same_35 LFU a2 v3 0)))
theorem v_N12_same  {n_a1 : Int32} {a1 : Int} (e_a1 : n_a1 = iI a1) {n_a2 : Int32} {a2 : Int} (e_a2 : n_a2 = iI a2) : Si iI (N12_same  n_a1 n_a2) (I12_same  a1 a2) := by
  subst e_a1
  subst e_a2
  unfold N12_same I12_same
  refine si_b (v_N12_isBook rfl) fun v1 => ?_
  refine si_ig fun h1 => ?_
  refine si_ite (cEq rfl (eLit 0) ⟨h1, (by decide)⟩) ?_ ?_
  · exact v_N12_same_16
  · refine si_b (v_N12_isBook rfl) fun v2 => ?_
    refine si_ig fun h2 => ?_
    refine si_ite (cEq rfl (eLit 0) ⟨h2, (by decide)⟩) ?_ ?_
    · exact v_N12_same_16
    · refine si_b (v_N12_writeBook rfl) fun _ => ?_
      refine si_b si_gI fun v3 => ?_
      exact (v_N12_same_35 LFU rfl rfl (eLit 0))
def I12_sheets_68 (x3 : Int) : IM Int :=
  ib (I12_fine x3) fun v1 =>
  ir v1
theorem v_N12_sheets_68  {n_x3 : Int32} {x3 : Int} (e_x3 : n_x3 = iI x3) : Si iI (N12_sheets_68  n_x3) (I12_sheets_68  x3) := by
  subst e_x3
  unfold N12_sheets_68 I12_sheets_68
  refine si_b (v_N12_fine rfl) fun v1 => ?_
  exact si_re rfl
def I12_sheets_32_st (k32 : Int → Int → Int → Int → IM Int) (x1 : Int) (x2 : Int) (x3 : Int) (x4 : Int) : IM Int :=
  ib (iaI 6 x1) fun v1 =>
  ig (R32 v1) <|
  ig (R32 x4) <|
  if v1 ≤ x4 then ((I12_sheets_68 x3)) else (ib (iaI 8 ((x1 * 71) + x4)) fun v2 =>
  ib (I12_sheetsOf v2 x2) fun v3 =>
  (k32 x1 x2 (x3 + v3) (x4 + 1)))
theorem v_N12_sheets_32_st {n_k32 : Int32 → Int32 → Int32 → Int32 → NM Int32} {k32 : Int → Int → Int → Int → IM Int} (hk32 : ∀ {n0 : Int32} {z0 : Int} (_ : n0 = iI z0) {n1 : Int32} {z1 : Int} (_ : n1 = iI z1) {n2 : Int32} {z2 : Int} (_ : n2 = iI z2) {n3 : Int32} {z3 : Int} (_ : n3 = iI z3), Si iI (n_k32 n0 n1 n2 n3) (k32 z0 z1 z2 z3)) {n_x1 : Int32} {x1 : Int} (e_x1 : n_x1 = iI x1) {n_x2 : Int32} {x2 : Int} (e_x2 : n_x2 = iI x2) {n_x3 : Int32} {x3 : Int} (e_x3 : n_x3 = iI x3) {n_x4 : Int32} {x4 : Int} (e_x4 : n_x4 = iI x4) : Si iI (N12_sheets_32_st n_k32 n_x1 n_x2 n_x3 n_x4) (I12_sheets_32_st k32 x1 x2 x3 x4) := by
  subst e_x1
  subst e_x2
  subst e_x3
  subst e_x4
  unfold N12_sheets_32_st I12_sheets_32_st
  refine si_b (si_aI rfl) fun v1 => ?_
  refine si_ig fun h1 => ?_
  refine si_ig fun h2 => ?_
  refine si_ite (cLe rfl rfl ⟨h1, h2⟩) ?_ ?_
  · exact (v_N12_sheets_68 rfl)
  · refine si_b (si_aI (eAdd (eMul rfl (eLit 71)) rfl)) fun v2 => ?_
    refine si_b (v_N12_sheetsOf rfl rfl) fun v3 => ?_
    exact (hk32 rfl rfl (eAdd rfl rfl) (eAdd rfl (eLit 1)))
def I12_sheets_32 : Nat → Int → Int → Int → Int → IM Int
  | 0 => fun _ _ _ _ => nof
  | n + 1 => fun x1 x2 x3 x4 => I12_sheets_32_st  (I12_sheets_32  n) x1 x2 x3 x4
theorem v_N12_sheets_32  : ∀ (n : Nat) {n_x1 : Int32} {x1 : Int} (e_x1 : n_x1 = iI x1) {n_x2 : Int32} {x2 : Int} (e_x2 : n_x2 = iI x2) {n_x3 : Int32} {x3 : Int} (e_x3 : n_x3 = iI x3) {n_x4 : Int32} {x4 : Int} (e_x4 : n_x4 = iI x4), Si iI (N12_sheets_32  n n_x1 n_x2 n_x3 n_x4) (I12_sheets_32  n x1 x2 x3 x4) := by
  intro n
  induction n with
  | zero => intro n_x1 x1 e_x1 n_x2 x2 e_x2 n_x3 x3 e_x3 n_x4 x4 e_x4; exact si_nf
  | succ n ih => intro n_x1 x1 e_x1 n_x2 x2 e_x2 n_x3 x3 e_x3 n_x4 x4 e_x4; exact v_N12_sheets_32_st  (ih) e_x1 e_x2 e_x3 e_x4
def I12_sheets (a1 : Int) (a2 : Int) : IM Int :=
  ib (I12_isBook a1) fun v1 =>
  ig (R32 v1) <|
  if v1 = 0 then (ib (I12_no 1) fun v2 =>
  ir v2) else (ib (I12_isFormat a2) fun v3 =>
  ig (R32 v3) <|
  if v3 = 0 then (ib (I12_no 3) fun v4 =>
  ir v4) else ((I12_sheets_32 LFU a1 a2 0 0)))
theorem v_N12_sheets  {n_a1 : Int32} {a1 : Int} (e_a1 : n_a1 = iI a1) {n_a2 : Int32} {a2 : Int} (e_a2 : n_a2 = iI a2) : Si iI (N12_sheets  n_a1 n_a2) (I12_sheets  a1 a2) := by
  subst e_a1
  subst e_a2
  unfold N12_sheets I12_sheets
  refine si_b (v_N12_isBook rfl) fun v1 => ?_
  refine si_ig fun h1 => ?_
  refine si_ite (cEq rfl (eLit 0) ⟨h1, (by decide)⟩) ?_ ?_
  · refine si_b (v_N12_no (eLit 1)) fun v2 => ?_
    exact si_re rfl
  · refine si_b (v_N12_isFormat rfl) fun v3 => ?_
    refine si_ig fun h2 => ?_
    refine si_ite (cEq rfl (eLit 0) ⟨h2, (by decide)⟩) ?_ ?_
    · refine si_b (v_N12_no (eLit 3)) fun v4 => ?_
      exact si_re rfl
    · exact (v_N12_sheets_32 LFU rfl rfl (eLit 0) (eLit 0))
def I12_sheet_32 : IM Int :=
  ib (I12_no 3) fun v1 =>
  ir v1
theorem v_N12_sheet_32  : Si iI (N12_sheet_32  ) (I12_sheet_32  ) := by
  unfold N12_sheet_32 I12_sheet_32
  refine si_b (v_N12_no (eLit 3)) fun v1 => ?_
  exact si_re rfl
def I12_sheet_162 (x7 : Int) : IM Int :=
  ib (I12_fine x7) fun v1 =>
  ir v1
theorem v_N12_sheet_162  {n_x7 : Int32} {x7 : Int} (e_x7 : n_x7 = iI x7) : Si iI (N12_sheet_162  n_x7) (I12_sheet_162  x7) := by
  subst e_x7
  unfold N12_sheet_162 I12_sheet_162
  refine si_b (v_N12_fine rfl) fun v1 => ?_
  exact si_re rfl
def I12_sheet_123_st (k123 : Int → Int → Int → Int → Int → IM Int) (x1 : Int) (x3 : Int) (x5 : Int) (x7 : Int) (x8 : Int) : IM Int :=
  ib (iaI 12 x5) fun v1 =>
  ig (R32 v1) <|
  ig (R32 x8) <|
  if v1 ≤ x8 then ((I12_sheet_162 x7)) else (ib (iaI 8 ((x1 * 71) + x8)) fun v2 =>
  ib (I12_sheetsOf v2 x3) fun v3 =>
  (k123 x1 x3 x5 (x7 + v3) (x8 + 1)))
theorem v_N12_sheet_123_st {n_k123 : Int32 → Int32 → Int32 → Int32 → Int32 → NM Int32} {k123 : Int → Int → Int → Int → Int → IM Int} (hk123 : ∀ {n0 : Int32} {z0 : Int} (_ : n0 = iI z0) {n1 : Int32} {z1 : Int} (_ : n1 = iI z1) {n2 : Int32} {z2 : Int} (_ : n2 = iI z2) {n3 : Int32} {z3 : Int} (_ : n3 = iI z3) {n4 : Int32} {z4 : Int} (_ : n4 = iI z4), Si iI (n_k123 n0 n1 n2 n3 n4) (k123 z0 z1 z2 z3 z4)) {n_x1 : Int32} {x1 : Int} (e_x1 : n_x1 = iI x1) {n_x3 : Int32} {x3 : Int} (e_x3 : n_x3 = iI x3) {n_x5 : Int32} {x5 : Int} (e_x5 : n_x5 = iI x5) {n_x7 : Int32} {x7 : Int} (e_x7 : n_x7 = iI x7) {n_x8 : Int32} {x8 : Int} (e_x8 : n_x8 = iI x8) : Si iI (N12_sheet_123_st n_k123 n_x1 n_x3 n_x5 n_x7 n_x8) (I12_sheet_123_st k123 x1 x3 x5 x7 x8) := by
  subst e_x1
  subst e_x3
  subst e_x5
  subst e_x7
  subst e_x8
  unfold N12_sheet_123_st I12_sheet_123_st
  refine si_b (si_aI rfl) fun v1 => ?_
  refine si_ig fun h1 => ?_
  refine si_ig fun h2 => ?_
  refine si_ite (cLe rfl rfl ⟨h1, h2⟩) ?_ ?_
  · exact (v_N12_sheet_162 rfl)
  · refine si_b (si_aI (eAdd (eMul rfl (eLit 71)) rfl)) fun v2 => ?_
    refine si_b (v_N12_sheetsOf rfl rfl) fun v3 => ?_
    exact (hk123 rfl rfl rfl (eAdd rfl rfl) (eAdd rfl (eLit 1)))
def I12_sheet_123 : Nat → Int → Int → Int → Int → Int → IM Int
  | 0 => fun _ _ _ _ _ => nof
  | n + 1 => fun x1 x3 x5 x7 x8 => I12_sheet_123_st  (I12_sheet_123  n) x1 x3 x5 x7 x8
theorem v_N12_sheet_123  : ∀ (n : Nat) {n_x1 : Int32} {x1 : Int} (e_x1 : n_x1 = iI x1) {n_x3 : Int32} {x3 : Int} (e_x3 : n_x3 = iI x3) {n_x5 : Int32} {x5 : Int} (e_x5 : n_x5 = iI x5) {n_x7 : Int32} {x7 : Int} (e_x7 : n_x7 = iI x7) {n_x8 : Int32} {x8 : Int} (e_x8 : n_x8 = iI x8), Si iI (N12_sheet_123  n n_x1 n_x3 n_x5 n_x7 n_x8) (I12_sheet_123  n x1 x3 x5 x7 x8) := by
  intro n
  induction n with
  | zero => intro n_x1 x1 e_x1 n_x3 x3 e_x3 n_x5 x5 e_x5 n_x7 x7 e_x7 n_x8 x8 e_x8; exact si_nf
  | succ n ih => intro n_x1 x1 e_x1 n_x3 x3 e_x3 n_x5 x5 e_x5 n_x7 x7 e_x7 n_x8 x8 e_x8; exact v_N12_sheet_123_st  (ih) e_x1 e_x3 e_x5 e_x7 e_x8
def I12_sheet (a1 : Int) (a2 : Int) (a3 : Int) (a4 : Int) : IM Int :=
  ib (I12_isLeaf a1 a2) fun v1 =>
  ig (R32 v1) <|
  if v1 = 0 then (ib (I12_no 1) fun v2 =>
  ir v2) else (ib (I12_isFormat a3) fun v3 =>
  ig (R32 v3) <|
  if v3 = 0 then (I12_sheet_32) else (ib (I12_isIn a4 0 1) fun v4 =>
  ig (R32 v4) <|
  if v4 = 0 then (I12_sheet_32) else (ib (I12_isPlain a1 a2) fun v5 =>
  ig (R32 v5) <|
  if v5 = 0 then (ib (I12_fine (-1)) fun v6 =>
  ir v6) else (ib (iaI 12 ((a1 * 400) + a2)) fun v7 =>
  ib (iaI 8 ((a1 * 71) + v7)) fun v8 =>
  ig (R32 a4) <|
  if a4 = 1 then (ib (iaI 13 ((a1 * 400) + a2)) fun v9 =>
  ib (I12_numberOn v8 v9 a3) fun v10 =>
  ib (I12_fine v10) fun v11 =>
  ir v11) else (ib (iaI 13 ((a1 * 400) + a2)) fun v12 =>
  ib (I12_sheetOf v8 v12 a3) fun v13 =>
  (I12_sheet_123 LFU a1 a3 ((a1 * 400) + a2) v13 0))))))
theorem v_N12_sheet  {n_a1 : Int32} {a1 : Int} (e_a1 : n_a1 = iI a1) {n_a2 : Int32} {a2 : Int} (e_a2 : n_a2 = iI a2) {n_a3 : Int32} {a3 : Int} (e_a3 : n_a3 = iI a3) {n_a4 : Int32} {a4 : Int} (e_a4 : n_a4 = iI a4) : Si iI (N12_sheet  n_a1 n_a2 n_a3 n_a4) (I12_sheet  a1 a2 a3 a4) := by
  subst e_a1
  subst e_a2
  subst e_a3
  subst e_a4
  unfold N12_sheet I12_sheet
  refine si_b (v_N12_isLeaf rfl rfl) fun v1 => ?_
  refine si_ig fun h1 => ?_
  refine si_ite (cEq rfl (eLit 0) ⟨h1, (by decide)⟩) ?_ ?_
  · refine si_b (v_N12_no (eLit 1)) fun v2 => ?_
    exact si_re rfl
  · refine si_b (v_N12_isFormat rfl) fun v3 => ?_
    refine si_ig fun h2 => ?_
    refine si_ite (cEq rfl (eLit 0) ⟨h2, (by decide)⟩) ?_ ?_
    · exact v_N12_sheet_32
    · refine si_b (v_N12_isIn rfl (eLit 0) (eLit 1)) fun v4 => ?_
      refine si_ig fun h3 => ?_
      refine si_ite (cEq rfl (eLit 0) ⟨h3, (by decide)⟩) ?_ ?_
      · exact v_N12_sheet_32
      · refine si_b (v_N12_isPlain rfl rfl) fun v5 => ?_
        refine si_ig fun h4 => ?_
        refine si_ite (cEq rfl (eLit 0) ⟨h4, (by decide)⟩) ?_ ?_
        · refine si_b (v_N12_fine (eLn 1)) fun v6 => ?_
          exact si_re rfl
        · refine si_b (si_aI (eAdd (eMul rfl (eLit 400)) rfl)) fun v7 => ?_
          refine si_b (si_aI (eAdd (eMul rfl (eLit 71)) rfl)) fun v8 => ?_
          refine si_ig fun h5 => ?_
          refine si_ite (cEq rfl (eLit 1) ⟨h5, (by decide)⟩) ?_ ?_
          · refine si_b (si_aI (eAdd (eMul rfl (eLit 400)) rfl)) fun v9 => ?_
            refine si_b (v_N12_numberOn rfl rfl rfl) fun v10 => ?_
            refine si_b (v_N12_fine rfl) fun v11 => ?_
            exact si_re rfl
          · refine si_b (si_aI (eAdd (eMul rfl (eLit 400)) rfl)) fun v12 => ?_
            refine si_b (v_N12_sheetOf rfl rfl rfl) fun v13 => ?_
            exact (v_N12_sheet_123 LFU rfl rfl (eAdd (eMul rfl (eLit 400)) rfl) rfl (eLit 0))
def I12_forme_32 : IM Int :=
  ib (I12_no 3) fun v1 =>
  ir v1
theorem v_N12_forme_32  : Si iI (N12_forme_32  ) (I12_forme_32  ) := by
  unfold N12_forme_32 I12_forme_32
  refine si_b (v_N12_no (eLit 3)) fun v1 => ?_
  exact si_re rfl
def I12_forme (a1 : Int) (a2 : Int) (a3 : Int) (a4 : Int) : IM Int :=
  ib (I12_isLeaf a1 a2) fun v1 =>
  ig (R32 v1) <|
  if v1 = 0 then (ib (I12_no 1) fun v2 =>
  ir v2) else (ib (I12_isIn a3 0 1) fun v3 =>
  ig (R32 v3) <|
  if v3 = 0 then (I12_forme_32) else (ib (I12_isFormat a4) fun v4 =>
  ig (R32 v4) <|
  if v4 = 0 then (I12_forme_32) else (ib (I12_isPlain a1 a2) fun v5 =>
  ig (R32 v5) <|
  if v5 = 0 then (ib (I12_fine (-1)) fun v6 =>
  ir v6) else (ib (iaI 12 ((a1 * 400) + a2)) fun v7 =>
  ib (iaI 8 ((a1 * 71) + v7)) fun v8 =>
  ib (iaI 13 ((a1 * 400) + a2)) fun v9 =>
  ib (I12_numberOn v8 v9 a4) fun v10 =>
  ib (irI ((v10 + 1) + a3) 2) fun v11 =>
  ib (I12_fine v11) fun v12 =>
  ir v12))))
theorem v_N12_forme  {n_a1 : Int32} {a1 : Int} (e_a1 : n_a1 = iI a1) {n_a2 : Int32} {a2 : Int} (e_a2 : n_a2 = iI a2) {n_a3 : Int32} {a3 : Int} (e_a3 : n_a3 = iI a3) {n_a4 : Int32} {a4 : Int} (e_a4 : n_a4 = iI a4) : Si iI (N12_forme  n_a1 n_a2 n_a3 n_a4) (I12_forme  a1 a2 a3 a4) := by
  subst e_a1
  subst e_a2
  subst e_a3
  subst e_a4
  unfold N12_forme I12_forme
  refine si_b (v_N12_isLeaf rfl rfl) fun v1 => ?_
  refine si_ig fun h1 => ?_
  refine si_ite (cEq rfl (eLit 0) ⟨h1, (by decide)⟩) ?_ ?_
  · refine si_b (v_N12_no (eLit 1)) fun v2 => ?_
    exact si_re rfl
  · refine si_b (v_N12_isIn rfl (eLit 0) (eLit 1)) fun v3 => ?_
    refine si_ig fun h2 => ?_
    refine si_ite (cEq rfl (eLit 0) ⟨h2, (by decide)⟩) ?_ ?_
    · exact v_N12_forme_32
    · refine si_b (v_N12_isFormat rfl) fun v4 => ?_
      refine si_ig fun h3 => ?_
      refine si_ite (cEq rfl (eLit 0) ⟨h3, (by decide)⟩) ?_ ?_
      · exact v_N12_forme_32
      · refine si_b (v_N12_isPlain rfl rfl) fun v5 => ?_
        refine si_ig fun h4 => ?_
        refine si_ite (cEq rfl (eLit 0) ⟨h4, (by decide)⟩) ?_ ?_
        · refine si_b (v_N12_fine (eLn 1)) fun v6 => ?_
          exact si_re rfl
        · refine si_b (si_aI (eAdd (eMul rfl (eLit 400)) rfl)) fun v7 => ?_
          refine si_b (si_aI (eAdd (eMul rfl (eLit 71)) rfl)) fun v8 => ?_
          refine si_b (si_aI (eAdd (eMul rfl (eLit 400)) rfl)) fun v9 => ?_
          refine si_b (v_N12_numberOn rfl rfl rfl) fun v10 => ?_
          refine si_b (si_rI (eAdd (eAdd rfl (eLit 1)) rfl) (eLit 2)) fun v11 => ?_
          refine si_b (v_N12_fine rfl) fun v12 => ?_
          exact si_re rfl
def I12_state (a1 : Int) (a2 : Int) : IM Int :=
  ib (I12_isCopy a1) fun v1 =>
  ig (R32 v1) <|
  if v1 = 0 then (ib (I12_no 1) fun v2 =>
  ir v2) else (ig (R32 a2) <|
  if a2 = 0 then (ib (iaI 16 a1) fun v3 =>
  ib (I12_fine v3) fun v4 =>
  ir v4) else (if a2 = 1 then (ib (iaI 17 a1) fun v5 =>
  ib (I12_fine v5) fun v6 =>
  ir v6) else (ib (I12_isIn a2 2 5) fun v7 =>
  ig (R32 v7) <|
  if v7 = 0 then (ib (I12_no 3) fun v8 =>
  ir v8) else (ib (I12_look a1) fun _ =>
  ib (I12_countTold a1 a2) fun v9 =>
  ib (I12_fine v9) fun v10 =>
  ir v10))))
theorem v_N12_state  {n_a1 : Int32} {a1 : Int} (e_a1 : n_a1 = iI a1) {n_a2 : Int32} {a2 : Int} (e_a2 : n_a2 = iI a2) : Si iI (N12_state  n_a1 n_a2) (I12_state  a1 a2) := by
  subst e_a1
  subst e_a2
  unfold N12_state I12_state
  refine si_b (v_N12_isCopy rfl) fun v1 => ?_
  refine si_ig fun h1 => ?_
  refine si_ite (cEq rfl (eLit 0) ⟨h1, (by decide)⟩) ?_ ?_
  · refine si_b (v_N12_no (eLit 1)) fun v2 => ?_
    exact si_re rfl
  · refine si_ig fun h2 => ?_
    refine si_ite (cEq rfl (eLit 0) ⟨h2, (by decide)⟩) ?_ ?_
    · refine si_b (si_aI rfl) fun v3 => ?_
      refine si_b (v_N12_fine rfl) fun v4 => ?_
      exact si_re rfl
    · refine si_ite (cEq rfl (eLit 1) ⟨h2, (by decide)⟩) ?_ ?_
      · refine si_b (si_aI rfl) fun v5 => ?_
        refine si_b (v_N12_fine rfl) fun v6 => ?_
        exact si_re rfl
      · refine si_b (v_N12_isIn rfl (eLit 2) (eLit 5)) fun v7 => ?_
        refine si_ig fun h3 => ?_
        refine si_ite (cEq rfl (eLit 0) ⟨h3, (by decide)⟩) ?_ ?_
        · refine si_b (v_N12_no (eLit 3)) fun v8 => ?_
          exact si_re rfl
        · refine si_b (v_N12_look rfl) fun _ => ?_
          refine si_b (v_N12_countTold rfl rfl) fun v9 => ?_
          refine si_b (v_N12_fine rfl) fun v10 => ?_
          exact si_re rfl
def I12_entry_43 : IM Int :=
  ib (I12_no 1) fun v1 =>
  ir v1
theorem v_N12_entry_43  : Si iI (N12_entry_43  ) (I12_entry_43  ) := by
  unfold N12_entry_43 I12_entry_43
  refine si_b (v_N12_no (eLit 1)) fun v1 => ?_
  exact si_re rfl
def I12_entry (a1 : Int) (a2 : Int) : IM Int :=
  ib (I12_isCopy a1) fun v1 =>
  ig (R32 v1) <|
  if v1 = 0 then (I12_entry_43) else (ib (iaI 17 a1) fun v2 =>
  ib (I12_isIn a2 0 (v2 - 1)) fun v3 =>
  ig (R32 v3) <|
  if v3 = 0 then (I12_entry_43) else (ib (iaI 18 ((a1 * 400) + a2)) fun v4 =>
  ib (I12_fine v4) fun v5 =>
  ir v5))
theorem v_N12_entry  {n_a1 : Int32} {a1 : Int} (e_a1 : n_a1 = iI a1) {n_a2 : Int32} {a2 : Int} (e_a2 : n_a2 = iI a2) : Si iI (N12_entry  n_a1 n_a2) (I12_entry  a1 a2) := by
  subst e_a1
  subst e_a2
  unfold N12_entry I12_entry
  refine si_b (v_N12_isCopy rfl) fun v1 => ?_
  refine si_ig fun h1 => ?_
  refine si_ite (cEq rfl (eLit 0) ⟨h1, (by decide)⟩) ?_ ?_
  · exact v_N12_entry_43
  · refine si_b (si_aI rfl) fun v2 => ?_
    refine si_b (v_N12_isIn rfl (eLit 0) (eSub rfl (eLit 1))) fun v3 => ?_
    refine si_ig fun h2 => ?_
    refine si_ite (cEq rfl (eLit 0) ⟨h2, (by decide)⟩) ?_ ?_
    · exact v_N12_entry_43
    · refine si_b (si_aI (eAdd (eMul rfl (eLit 400)) rfl)) fun v4 => ?_
      refine si_b (v_N12_fine rfl) fun v5 => ?_
      exact si_re rfl
def I12_told_70 (x5 : Int) : IM Int :=
  ib (I12_fine x5) fun v1 =>
  ir v1
theorem v_N12_told_70  {n_x5 : Int32} {x5 : Int} (e_x5 : n_x5 = iI x5) : Si iI (N12_told_70  n_x5) (I12_told_70  x5) := by
  subst e_x5
  unfold N12_told_70 I12_told_70
  refine si_b (v_N12_fine rfl) fun v1 => ?_
  exact si_re rfl
def I12_told_80 (k40 : Int → Int → Int → Int → IM Int) (x1 : Int) (x2 : Int) (x4 : Int) (x5 : Int) : IM Int :=
  (k40 x1 x2 x4 (x5 + 1))
theorem v_N12_told_80 {n_k40 : Int32 → Int32 → Int32 → Int32 → NM Int32} {k40 : Int → Int → Int → Int → IM Int} (hk40 : ∀ {n0 : Int32} {z0 : Int} (_ : n0 = iI z0) {n1 : Int32} {z1 : Int} (_ : n1 = iI z1) {n2 : Int32} {z2 : Int} (_ : n2 = iI z2) {n3 : Int32} {z3 : Int} (_ : n3 = iI z3), Si iI (n_k40 n0 n1 n2 n3) (k40 z0 z1 z2 z3)) {n_x1 : Int32} {x1 : Int} (e_x1 : n_x1 = iI x1) {n_x2 : Int32} {x2 : Int} (e_x2 : n_x2 = iI x2) {n_x4 : Int32} {x4 : Int} (e_x4 : n_x4 = iI x4) {n_x5 : Int32} {x5 : Int} (e_x5 : n_x5 = iI x5) : Si iI (N12_told_80 n_k40 n_x1 n_x2 n_x4 n_x5) (I12_told_80 k40 x1 x2 x4 x5) := by
  subst e_x1
  subst e_x2
  subst e_x4
  subst e_x5
  unfold N12_told_80 I12_told_80
  exact (hk40 rfl rfl rfl (eAdd rfl (eLit 1)))
def I12_told_86 : IM Int :=
  ib (I12_no 1) fun v1 =>
  ir v1
theorem v_N12_told_86  : Si iI (N12_told_86  ) (I12_told_86  ) := by
  unfold N12_told_86 I12_told_86
  refine si_b (v_N12_no (eLit 1)) fun v1 => ?_
  exact si_re rfl
def I12_told_40_st (k40 : Int → Int → Int → Int → IM Int) (x1 : Int) (x2 : Int) (x4 : Int) (x5 : Int) : IM Int :=
  ib (I12_many x1 x2) fun v1 =>
  ig (R32 v1) <|
  ig (R32 x5) <|
  if v1 ≤ x5 then (I12_told_86) else (ib (I12_isTold x1 x2 x5) fun v2 =>
  ig (R32 v2) <|
  if v2 = 0 then ((I12_told_80 k40 x1 x2 x4 x5)) else (ig (R32 x4) <|
  if x4 = 0 then ((I12_told_70 x5)) else ((I12_told_80 k40 x1 x2 (x4 + (-1)) x5))))
theorem v_N12_told_40_st {n_k40 : Int32 → Int32 → Int32 → Int32 → NM Int32} {k40 : Int → Int → Int → Int → IM Int} (hk40 : ∀ {n0 : Int32} {z0 : Int} (_ : n0 = iI z0) {n1 : Int32} {z1 : Int} (_ : n1 = iI z1) {n2 : Int32} {z2 : Int} (_ : n2 = iI z2) {n3 : Int32} {z3 : Int} (_ : n3 = iI z3), Si iI (n_k40 n0 n1 n2 n3) (k40 z0 z1 z2 z3)) {n_x1 : Int32} {x1 : Int} (e_x1 : n_x1 = iI x1) {n_x2 : Int32} {x2 : Int} (e_x2 : n_x2 = iI x2) {n_x4 : Int32} {x4 : Int} (e_x4 : n_x4 = iI x4) {n_x5 : Int32} {x5 : Int} (e_x5 : n_x5 = iI x5) : Si iI (N12_told_40_st n_k40 n_x1 n_x2 n_x4 n_x5) (I12_told_40_st k40 x1 x2 x4 x5) := by
  subst e_x1
  subst e_x2
  subst e_x4
  subst e_x5
  unfold N12_told_40_st I12_told_40_st
  refine si_b (v_N12_many rfl rfl) fun v1 => ?_
  refine si_ig fun h1 => ?_
  refine si_ig fun h2 => ?_
  refine si_ite (cLe rfl rfl ⟨h1, h2⟩) ?_ ?_
  · exact v_N12_told_86
  · refine si_b (v_N12_isTold rfl rfl rfl) fun v2 => ?_
    refine si_ig fun h3 => ?_
    refine si_ite (cEq rfl (eLit 0) ⟨h3, (by decide)⟩) ?_ ?_
    · exact (v_N12_told_80 hk40 rfl rfl rfl rfl)
    · refine si_ig fun h4 => ?_
      refine si_ite (cEq rfl (eLit 0) ⟨h4, (by decide)⟩) ?_ ?_
      · exact (v_N12_told_70 rfl)
      · exact (v_N12_told_80 hk40 rfl rfl (eAdd rfl (eLn 1)) rfl)
def I12_told_40 : Nat → Int → Int → Int → Int → IM Int
  | 0 => fun _ _ _ _ => nof
  | n + 1 => fun x1 x2 x4 x5 => I12_told_40_st  (I12_told_40  n) x1 x2 x4 x5
theorem v_N12_told_40  : ∀ (n : Nat) {n_x1 : Int32} {x1 : Int} (e_x1 : n_x1 = iI x1) {n_x2 : Int32} {x2 : Int} (e_x2 : n_x2 = iI x2) {n_x4 : Int32} {x4 : Int} (e_x4 : n_x4 = iI x4) {n_x5 : Int32} {x5 : Int} (e_x5 : n_x5 = iI x5), Si iI (N12_told_40  n n_x1 n_x2 n_x4 n_x5) (I12_told_40  n x1 x2 x4 x5) := by
  intro n
  induction n with
  | zero => intro n_x1 x1 e_x1 n_x2 x2 e_x2 n_x4 x4 e_x4 n_x5 x5 e_x5; exact si_nf
  | succ n ih => intro n_x1 x1 e_x1 n_x2 x2 e_x2 n_x4 x4 e_x4 n_x5 x5 e_x5; exact v_N12_told_40_st  (ih) e_x1 e_x2 e_x4 e_x5
def I12_told (a1 : Int) (a2 : Int) (a3 : Int) : IM Int :=
  ib (I12_isCopy a1) fun v1 =>
  ig (R32 v1) <|
  if v1 = 0 then (ib (I12_no 1) fun v2 =>
  ir v2) else (ib (I12_isIn a2 2 5) fun v3 =>
  ig (R32 v3) <|
  if v3 = 0 then (ib (I12_no 3) fun v4 =>
  ir v4) else (ib (I12_look a1) fun _ =>
  (I12_told_40 LFU a1 a2 a3 0)))
theorem v_N12_told  {n_a1 : Int32} {a1 : Int} (e_a1 : n_a1 = iI a1) {n_a2 : Int32} {a2 : Int} (e_a2 : n_a2 = iI a2) {n_a3 : Int32} {a3 : Int} (e_a3 : n_a3 = iI a3) : Si iI (N12_told  n_a1 n_a2 n_a3) (I12_told  a1 a2 a3) := by
  subst e_a1
  subst e_a2
  subst e_a3
  unfold N12_told I12_told
  refine si_b (v_N12_isCopy rfl) fun v1 => ?_
  refine si_ig fun h1 => ?_
  refine si_ite (cEq rfl (eLit 0) ⟨h1, (by decide)⟩) ?_ ?_
  · refine si_b (v_N12_no (eLit 1)) fun v2 => ?_
    exact si_re rfl
  · refine si_b (v_N12_isIn rfl (eLit 2) (eLit 5)) fun v3 => ?_
    refine si_ig fun h2 => ?_
    refine si_ite (cEq rfl (eLit 0) ⟨h2, (by decide)⟩) ?_ ?_
    · refine si_b (v_N12_no (eLit 3)) fun v4 => ?_
      exact si_re rfl
    · refine si_b (v_N12_look rfl) fun _ => ?_
      exact (v_N12_told_40 LFU rfl rfl rfl (eLit 0))
def I12_note (a1 : Int) (a2 : Int) : IM Int :=
  ib (I12_isCopy a1) fun v1 =>
  ig (R32 v1) <|
  if v1 = 0 then (ib (I12_no 1) fun v2 =>
  ir v2) else (ib (I12_writeNote a1) fun _ =>
  ib (I12_tell a2) fun v3 =>
  ir v3)
theorem v_N12_note  {n_a1 : Int32} {a1 : Int} (e_a1 : n_a1 = iI a1) {n_a2 : Int32} {a2 : Int} (e_a2 : n_a2 = iI a2) : Si iI (N12_note  n_a1 n_a2) (I12_note  a1 a2) := by
  subst e_a1
  subst e_a2
  unfold N12_note I12_note
  refine si_b (v_N12_isCopy rfl) fun v1 => ?_
  refine si_ig fun h1 => ?_
  refine si_ite (cEq rfl (eLit 0) ⟨h1, (by decide)⟩) ?_ ?_
  · refine si_b (v_N12_no (eLit 1)) fun v2 => ?_
    exact si_re rfl
  · refine si_b (v_N12_writeNote rfl) fun _ => ?_
    refine si_b (v_N12_tell rfl) fun v3 => ?_
    exact si_re rfl
def I12_mark_21_st (k21 : Int → Nat → Int → IM Unit) (x1 : Int) (x2 : Nat) (x3 : Int) : IM Unit :=
  ib (iaI 17 x1) fun v1 =>
  ig (R32 v1) <|
  ig (R32 x3) <|
  if v1 ≤ x3 then (ir ()) else (ib (iaI 18 ((x1 * 400) + x3)) fun v2 =>
  ib (isZ' x2 v2 1) fun _ =>
  (k21 x1 x2 (x3 + 1)))
theorem v_N12_mark_21_st {n_k21 : Int32 → Nat → Int32 → NM Unit} {k21 : Int → Nat → Int → IM Unit} (hk21 : ∀ {n0 : Int32} {z0 : Int} (_ : n0 = iI z0) (z1 : Nat) {n2 : Int32} {z2 : Int} (_ : n2 = iI z2), Si (fun x : Unit => x) (n_k21 n0 z1 n2) (k21 z0 z1 z2)) {n_x1 : Int32} {x1 : Int} (e_x1 : n_x1 = iI x1) (x2 : Nat) {n_x3 : Int32} {x3 : Int} (e_x3 : n_x3 = iI x3) : Si (fun x : Unit => x) (N12_mark_21_st n_k21 n_x1 x2 n_x3) (I12_mark_21_st k21 x1 x2 x3) := by
  subst e_x1
  subst e_x3
  unfold N12_mark_21_st I12_mark_21_st
  refine si_b (si_aI rfl) fun v1 => ?_
  refine si_ig fun h1 => ?_
  refine si_ig fun h2 => ?_
  refine si_ite (cLe rfl rfl ⟨h1, h2⟩) ?_ ?_
  · exact si_rn
  · refine si_b (si_aI (eAdd (eMul rfl (eLit 400)) rfl)) fun v2 => ?_
    refine si_b (si_sZ rfl (eLit 1)) fun _ => ?_
    exact (hk21 rfl x2 (eAdd rfl (eLit 1)))
def I12_mark_21 : Nat → Int → Nat → Int → IM Unit
  | 0 => fun _ _ _ => nof
  | n + 1 => fun x1 x2 x3 => I12_mark_21_st  (I12_mark_21  n) x1 x2 x3
theorem v_N12_mark_21  : ∀ (n : Nat) {n_x1 : Int32} {x1 : Int} (e_x1 : n_x1 = iI x1) (x2 : Nat) {n_x3 : Int32} {x3 : Int} (e_x3 : n_x3 = iI x3), Si (fun x : Unit => x) (N12_mark_21  n n_x1 x2 n_x3) (I12_mark_21  n x1 x2 x3) := by
  intro n
  induction n with
  | zero => intro n_x1 x1 e_x1 x2 n_x3 x3 e_x3; exact si_nf
  | succ n ih => intro n_x1 x1 e_x1 x2 n_x3 x3 e_x3; exact v_N12_mark_21_st  (ih) e_x1 x2 e_x3
def I12_mark_19 (x1 : Int) (x2 : Nat) : IM Unit :=
  (I12_mark_21 LFU x1 x2 0)
theorem v_N12_mark_19  {n_x1 : Int32} {x1 : Int} (e_x1 : n_x1 = iI x1) (x2 : Nat) : Si (fun x : Unit => x) (N12_mark_19  n_x1 x2) (I12_mark_19  x1 x2) := by
  subst e_x1
  unfold N12_mark_19 I12_mark_19
  exact (v_N12_mark_21 LFU rfl x2 (eLit 0))
def I12_mark_2_st (k2 : Int → Nat → Int → IM Unit) (x1 : Int) (x2 : Nat) (x3 : Int) : IM Unit :=
  ig (R32 x3) <|
  if 400 ≤ x3 then ((I12_mark_19 x1 x2)) else (ib (isZ' x2 x3 0) fun _ =>
  (k2 x1 x2 (x3 + 1)))
theorem v_N12_mark_2_st {n_k2 : Int32 → Nat → Int32 → NM Unit} {k2 : Int → Nat → Int → IM Unit} (hk2 : ∀ {n0 : Int32} {z0 : Int} (_ : n0 = iI z0) (z1 : Nat) {n2 : Int32} {z2 : Int} (_ : n2 = iI z2), Si (fun x : Unit => x) (n_k2 n0 z1 n2) (k2 z0 z1 z2)) {n_x1 : Int32} {x1 : Int} (e_x1 : n_x1 = iI x1) (x2 : Nat) {n_x3 : Int32} {x3 : Int} (e_x3 : n_x3 = iI x3) : Si (fun x : Unit => x) (N12_mark_2_st n_k2 n_x1 x2 n_x3) (I12_mark_2_st k2 x1 x2 x3) := by
  subst e_x1
  subst e_x3
  unfold N12_mark_2_st I12_mark_2_st
  refine si_ig fun h1 => ?_
  refine si_ite (cLe (eLit 400) rfl ⟨(by decide), h1⟩) ?_ ?_
  · exact (v_N12_mark_19 rfl x2)
  · refine si_b (si_sZ rfl (eLit 0)) fun _ => ?_
    exact (hk2 rfl x2 (eAdd rfl (eLit 1)))
def I12_mark_2 : Nat → Int → Nat → Int → IM Unit
  | 0 => fun _ _ _ => nof
  | n + 1 => fun x1 x2 x3 => I12_mark_2_st  (I12_mark_2  n) x1 x2 x3
theorem v_N12_mark_2  : ∀ (n : Nat) {n_x1 : Int32} {x1 : Int} (e_x1 : n_x1 = iI x1) (x2 : Nat) {n_x3 : Int32} {x3 : Int} (e_x3 : n_x3 = iI x3), Si (fun x : Unit => x) (N12_mark_2  n n_x1 x2 n_x3) (I12_mark_2  n x1 x2 x3) := by
  intro n
  induction n with
  | zero => intro n_x1 x1 e_x1 x2 n_x3 x3 e_x3; exact si_nf
  | succ n ih => intro n_x1 x1 e_x1 x2 n_x3 x3 e_x3; exact v_N12_mark_2_st  (ih) e_x1 x2 e_x3
def I12_mark (a1 : Int) (a2 : Nat) : IM Unit :=
  (I12_mark_2 LFU a1 a2 0)
theorem v_N12_mark  {n_a1 : Int32} {a1 : Int} (e_a1 : n_a1 = iI a1) (a2 : Nat) : Si (fun x : Unit => x) (N12_mark  n_a1 a2) (I12_mark  a1 a2) := by
  subst e_a1
  unfold N12_mark I12_mark
  exact (v_N12_mark_2 LFU rfl a2 (eLit 0))
def I12_twoWhy (a1 : Int) (a2 : Int) : IM Int :=
  ib (I12_isCopy a1) fun v1 =>
  ig (R32 v1) <|
  if v1 = 0 then (ir 1) else (ib (I12_isCopy a2) fun v2 =>
  ig (R32 v2) <|
  if v2 = 0 then (ir 1) else (ib (iaI 16 a1) fun v3 =>
  ib (iaI 16 a2) fun v4 =>
  ig (R32 v3) <|
  ig (R32 v4) <|
  if v3 = v4 then (ir 0) else (ir 4)))
theorem v_N12_twoWhy  {n_a1 : Int32} {a1 : Int} (e_a1 : n_a1 = iI a1) {n_a2 : Int32} {a2 : Int} (e_a2 : n_a2 = iI a2) : Si iI (N12_twoWhy  n_a1 n_a2) (I12_twoWhy  a1 a2) := by
  subst e_a1
  subst e_a2
  unfold N12_twoWhy I12_twoWhy
  refine si_b (v_N12_isCopy rfl) fun v1 => ?_
  refine si_ig fun h1 => ?_
  refine si_ite (cEq rfl (eLit 0) ⟨h1, (by decide)⟩) ?_ ?_
  · exact si_re (eLit 1)
  · refine si_b (v_N12_isCopy rfl) fun v2 => ?_
    refine si_ig fun h2 => ?_
    refine si_ite (cEq rfl (eLit 0) ⟨h2, (by decide)⟩) ?_ ?_
    · exact si_re (eLit 1)
    · refine si_b (si_aI rfl) fun v3 => ?_
      refine si_b (si_aI rfl) fun v4 => ?_
      refine si_ig fun h3 => ?_
      refine si_ig fun h4 => ?_
      refine si_ite (cEq rfl rfl ⟨h3, h4⟩) ?_ ?_
      · exact si_re (eLit 0)
      · exact si_re (eLit 4)
def I12_apart_73 (k41 : Int → Int → IM Int) (x5 : Int) (y0 : Int) (y1 : Int) : IM Int :=
  (k41 (y1 + y0) (x5 + 1))
theorem v_N12_apart_73 {n_k41 : Int32 → Int32 → NM Int32} {k41 : Int → Int → IM Int} (hk41 : ∀ {n0 : Int32} {z0 : Int} (_ : n0 = iI z0) {n1 : Int32} {z1 : Int} (_ : n1 = iI z1), Si iI (n_k41 n0 n1) (k41 z0 z1)) {n_x5 : Int32} {x5 : Int} (e_x5 : n_x5 = iI x5) {n_y0 : Int32} {y0 : Int} (e_y0 : n_y0 = iI y0) {n_y1 : Int32} {y1 : Int} (e_y1 : n_y1 = iI y1) : Si iI (N12_apart_73 n_k41 n_x5 n_y0 n_y1) (I12_apart_73 k41 x5 y0 y1) := by
  subst e_x5
  subst e_y0
  subst e_y1
  unfold N12_apart_73 I12_apart_73
  exact (hk41 (eAdd rfl rfl) (eAdd rfl (eLit 1)))
def I12_apart_82 (x4 : Int) : IM Int :=
  ib (I12_fine x4) fun v1 =>
  ir v1
theorem v_N12_apart_82  {n_x4 : Int32} {x4 : Int} (e_x4 : n_x4 = iI x4) : Si iI (N12_apart_82  n_x4) (I12_apart_82  x4) := by
  subst e_x4
  unfold N12_apart_82 I12_apart_82
  refine si_b (v_N12_fine rfl) fun v1 => ?_
  exact si_re rfl
def I12_apart_41_st (k41 : Int → Int → IM Int) (x4 : Int) (x5 : Int) : IM Int :=
  ig (R32 x5) <|
  if 400 ≤ x5 then ((I12_apart_82 x4)) else (ib (iaZ 47 x5) fun v1 =>
  ib (iaZ 48 x5) fun v2 =>
  ig (R32 v1) <|
  ig (R32 v2) <|
  if v1 = v2 then ((I12_apart_73 k41 x5 0 x4)) else ((I12_apart_73 k41 x5 1 x4)))
theorem v_N12_apart_41_st {n_k41 : Int32 → Int32 → NM Int32} {k41 : Int → Int → IM Int} (hk41 : ∀ {n0 : Int32} {z0 : Int} (_ : n0 = iI z0) {n1 : Int32} {z1 : Int} (_ : n1 = iI z1), Si iI (n_k41 n0 n1) (k41 z0 z1)) {n_x4 : Int32} {x4 : Int} (e_x4 : n_x4 = iI x4) {n_x5 : Int32} {x5 : Int} (e_x5 : n_x5 = iI x5) : Si iI (N12_apart_41_st n_k41 n_x4 n_x5) (I12_apart_41_st k41 x4 x5) := by
  subst e_x4
  subst e_x5
  unfold N12_apart_41_st I12_apart_41_st
  refine si_ig fun h1 => ?_
  refine si_ite (cLe (eLit 400) rfl ⟨(by decide), h1⟩) ?_ ?_
  · exact (v_N12_apart_82 rfl)
  · refine si_b (si_aZ rfl) fun v1 => ?_
    refine si_b (si_aZ rfl) fun v2 => ?_
    refine si_ig fun h2 => ?_
    refine si_ig fun h3 => ?_
    refine si_ite (cEq rfl rfl ⟨h2, h3⟩) ?_ ?_
    · exact (v_N12_apart_73 hk41 rfl (eLit 0) rfl)
    · exact (v_N12_apart_73 hk41 rfl (eLit 1) rfl)
def I12_apart_41 : Nat → Int → Int → IM Int
  | 0 => fun _ _ => nof
  | n + 1 => fun x4 x5 => I12_apart_41_st  (I12_apart_41  n) x4 x5
theorem v_N12_apart_41  : ∀ (n : Nat) {n_x4 : Int32} {x4 : Int} (e_x4 : n_x4 = iI x4) {n_x5 : Int32} {x5 : Int} (e_x5 : n_x5 = iI x5), Si iI (N12_apart_41  n n_x4 n_x5) (I12_apart_41  n x4 x5) := by
  intro n
  induction n with
  | zero => intro n_x4 x4 e_x4 n_x5 x5 e_x5; exact si_nf
  | succ n ih => intro n_x4 x4 e_x4 n_x5 x5 e_x5; exact v_N12_apart_41_st  (ih) e_x4 e_x5
def I12_apart (a1 : Int) (a2 : Int) : IM Int :=
  ib (I12_twoWhy a1 a2) fun v1 =>
  ig (R32 v1) <|
  if v1 ≤ 0 then (ib (I12_mark a1 47) fun _ =>
  ib (I12_mark a2 48) fun _ =>
  (I12_apart_41 LFU 0 0)) else (ib (I12_no v1) fun v2 =>
  ir v2)
theorem v_N12_apart  {n_a1 : Int32} {a1 : Int} (e_a1 : n_a1 = iI a1) {n_a2 : Int32} {a2 : Int} (e_a2 : n_a2 = iI a2) : Si iI (N12_apart  n_a1 n_a2) (I12_apart  a1 a2) := by
  subst e_a1
  subst e_a2
  unfold N12_apart I12_apart
  refine si_b (v_N12_twoWhy rfl rfl) fun v1 => ?_
  refine si_ig fun h1 => ?_
  refine si_ite (cLe rfl (eLit 0) ⟨h1, (by decide)⟩) ?_ ?_
  · refine si_b (v_N12_mark rfl 47) fun _ => ?_
    refine si_b (v_N12_mark rfl 48) fun _ => ?_
    exact (v_N12_apart_41 LFU (eLit 0) (eLit 0))
  · refine si_b (v_N12_no rfl) fun v2 => ?_
    exact si_re rfl
def I12_together_113 (k63 : Int → Int → Int → Int → IM Int) (x1 : Int) (x4 : Int) (x5 : Int) (x6 : Int) : IM Int :=
  (k63 x1 x4 x5 (x6 + 1))
theorem v_N12_together_113 {n_k63 : Int32 → Int32 → Int32 → Int32 → NM Int32} {k63 : Int → Int → Int → Int → IM Int} (hk63 : ∀ {n0 : Int32} {z0 : Int} (_ : n0 = iI z0) {n1 : Int32} {z1 : Int} (_ : n1 = iI z1) {n2 : Int32} {z2 : Int} (_ : n2 = iI z2) {n3 : Int32} {z3 : Int} (_ : n3 = iI z3), Si iI (n_k63 n0 n1 n2 n3) (k63 z0 z1 z2 z3)) {n_x1 : Int32} {x1 : Int} (e_x1 : n_x1 = iI x1) {n_x4 : Int32} {x4 : Int} (e_x4 : n_x4 = iI x4) {n_x5 : Int32} {x5 : Int} (e_x5 : n_x5 = iI x5) {n_x6 : Int32} {x6 : Int} (e_x6 : n_x6 = iI x6) : Si iI (N12_together_113 n_k63 n_x1 n_x4 n_x5 n_x6) (I12_together_113 k63 x1 x4 x5 x6) := by
  subst e_x1
  subst e_x4
  subst e_x5
  subst e_x6
  unfold N12_together_113 I12_together_113
  exact (hk63 rfl rfl rfl (eAdd rfl (eLit 1)))
def I12_together_94 (k63 : Int → Int → Int → Int → IM Int) (x1 : Int) (x4 : Int) (x5 : Int) (x6 : Int) : IM Int :=
  ib (isI 18 ((x4 * 400) + x5) x6) fun _ =>
  (I12_together_113 k63 x1 x4 (x5 + 1) x6)
theorem v_N12_together_94 {n_k63 : Int32 → Int32 → Int32 → Int32 → NM Int32} {k63 : Int → Int → Int → Int → IM Int} (hk63 : ∀ {n0 : Int32} {z0 : Int} (_ : n0 = iI z0) {n1 : Int32} {z1 : Int} (_ : n1 = iI z1) {n2 : Int32} {z2 : Int} (_ : n2 = iI z2) {n3 : Int32} {z3 : Int} (_ : n3 = iI z3), Si iI (n_k63 n0 n1 n2 n3) (k63 z0 z1 z2 z3)) {n_x1 : Int32} {x1 : Int} (e_x1 : n_x1 = iI x1) {n_x4 : Int32} {x4 : Int} (e_x4 : n_x4 = iI x4) {n_x5 : Int32} {x5 : Int} (e_x5 : n_x5 = iI x5) {n_x6 : Int32} {x6 : Int} (e_x6 : n_x6 = iI x6) : Si iI (N12_together_94 n_k63 n_x1 n_x4 n_x5 n_x6) (I12_together_94 k63 x1 x4 x5 x6) := by
  subst e_x1
  subst e_x4
  subst e_x5
  subst e_x6
  unfold N12_together_94 I12_together_94
  refine si_b (si_sI (eAdd (eMul rfl (eLit 400)) rfl) rfl) fun _ => ?_
  exact (v_N12_together_113 hk63 rfl rfl (eAdd rfl (eLit 1)) rfl)
def I12_together_119 (x1 : Int) (x4 : Int) (x5 : Int) : IM Int :=
  ib (isI 17 x4 x5) fun _ =>
  ib (iaI 16 x1) fun v1 =>
  ib (isI 16 x4 v1) fun _ =>
  ib (igI 15) fun v2 =>
  ib (ipI 15 (v2 + 1)) fun _ =>
  ib (I12_fine x4) fun v3 =>
  ir v3
theorem v_N12_together_119  {n_x1 : Int32} {x1 : Int} (e_x1 : n_x1 = iI x1) {n_x4 : Int32} {x4 : Int} (e_x4 : n_x4 = iI x4) {n_x5 : Int32} {x5 : Int} (e_x5 : n_x5 = iI x5) : Si iI (N12_together_119  n_x1 n_x4 n_x5) (I12_together_119  x1 x4 x5) := by
  subst e_x1
  subst e_x4
  subst e_x5
  unfold N12_together_119 I12_together_119
  refine si_b (si_sI rfl rfl) fun _ => ?_
  refine si_b (si_aI rfl) fun v1 => ?_
  refine si_b (si_sI rfl rfl) fun _ => ?_
  refine si_b si_gI fun v2 => ?_
  refine si_b (si_pI (eAdd rfl (eLit 1))) fun _ => ?_
  refine si_b (v_N12_fine rfl) fun v3 => ?_
  exact si_re rfl
def I12_together_63_st (k63 : Int → Int → Int → Int → IM Int) (x1 : Int) (x4 : Int) (x5 : Int) (x6 : Int) : IM Int :=
  ig (R32 x6) <|
  if 400 ≤ x6 then ((I12_together_119 x1 x4 x5)) else (ib (iaZ 47 x6) fun v1 =>
  ig (R32 v1) <|
  if v1 = 0 then (ib (iaZ 48 x6) fun v2 =>
  ig (R32 v2) <|
  if v2 = 0 then ((I12_together_113 k63 x1 x4 x5 x6)) else ((I12_together_94 k63 x1 x4 x5 x6))) else ((I12_together_94 k63 x1 x4 x5 x6)))
theorem v_N12_together_63_st {n_k63 : Int32 → Int32 → Int32 → Int32 → NM Int32} {k63 : Int → Int → Int → Int → IM Int} (hk63 : ∀ {n0 : Int32} {z0 : Int} (_ : n0 = iI z0) {n1 : Int32} {z1 : Int} (_ : n1 = iI z1) {n2 : Int32} {z2 : Int} (_ : n2 = iI z2) {n3 : Int32} {z3 : Int} (_ : n3 = iI z3), Si iI (n_k63 n0 n1 n2 n3) (k63 z0 z1 z2 z3)) {n_x1 : Int32} {x1 : Int} (e_x1 : n_x1 = iI x1) {n_x4 : Int32} {x4 : Int} (e_x4 : n_x4 = iI x4) {n_x5 : Int32} {x5 : Int} (e_x5 : n_x5 = iI x5) {n_x6 : Int32} {x6 : Int} (e_x6 : n_x6 = iI x6) : Si iI (N12_together_63_st n_k63 n_x1 n_x4 n_x5 n_x6) (I12_together_63_st k63 x1 x4 x5 x6) := by
  subst e_x1
  subst e_x4
  subst e_x5
  subst e_x6
  unfold N12_together_63_st I12_together_63_st
  refine si_ig fun h1 => ?_
  refine si_ite (cLe (eLit 400) rfl ⟨(by decide), h1⟩) ?_ ?_
  · exact (v_N12_together_119 rfl rfl rfl)
  · refine si_b (si_aZ rfl) fun v1 => ?_
    refine si_ig fun h2 => ?_
    refine si_ite (cEq rfl (eLit 0) ⟨h2, (by decide)⟩) ?_ ?_
    · refine si_b (si_aZ rfl) fun v2 => ?_
      refine si_ig fun h3 => ?_
      refine si_ite (cEq rfl (eLit 0) ⟨h3, (by decide)⟩) ?_ ?_
      · exact (v_N12_together_113 hk63 rfl rfl rfl rfl)
      · exact (v_N12_together_94 hk63 rfl rfl rfl rfl)
    · exact (v_N12_together_94 hk63 rfl rfl rfl rfl)
def I12_together_63 : Nat → Int → Int → Int → Int → IM Int
  | 0 => fun _ _ _ _ => nof
  | n + 1 => fun x1 x4 x5 x6 => I12_together_63_st  (I12_together_63  n) x1 x4 x5 x6
theorem v_N12_together_63  : ∀ (n : Nat) {n_x1 : Int32} {x1 : Int} (e_x1 : n_x1 = iI x1) {n_x4 : Int32} {x4 : Int} (e_x4 : n_x4 = iI x4) {n_x5 : Int32} {x5 : Int} (e_x5 : n_x5 = iI x5) {n_x6 : Int32} {x6 : Int} (e_x6 : n_x6 = iI x6), Si iI (N12_together_63  n n_x1 n_x4 n_x5 n_x6) (I12_together_63  n x1 x4 x5 x6) := by
  intro n
  induction n with
  | zero => intro n_x1 x1 e_x1 n_x4 x4 e_x4 n_x5 x5 e_x5 n_x6 x6 e_x6; exact si_nf
  | succ n ih => intro n_x1 x1 e_x1 n_x4 x4 e_x4 n_x5 x5 e_x5 n_x6 x6 e_x6; exact v_N12_together_63_st  (ih) e_x1 e_x4 e_x5 e_x6
def I12_together (a1 : Int) (a2 : Int) : IM Int :=
  ib (I12_twoWhy a1 a2) fun v1 =>
  ig (R32 v1) <|
  if v1 ≤ 0 then (ib (igI 15) fun v2 =>
  ig (R32 v2) <|
  if v2 = 16 then (ib (I12_no 9) fun v3 =>
  ir v3) else (ib (I12_mark a1 47) fun _ =>
  ib (I12_mark a2 48) fun _ =>
  ib (igI 15) fun v4 =>
  (I12_together_63 LFU a1 v4 0 0))) else (ib (I12_no v1) fun v5 =>
  ir v5)
theorem v_N12_together  {n_a1 : Int32} {a1 : Int} (e_a1 : n_a1 = iI a1) {n_a2 : Int32} {a2 : Int} (e_a2 : n_a2 = iI a2) : Si iI (N12_together  n_a1 n_a2) (I12_together  a1 a2) := by
  subst e_a1
  subst e_a2
  unfold N12_together I12_together
  refine si_b (v_N12_twoWhy rfl rfl) fun v1 => ?_
  refine si_ig fun h1 => ?_
  refine si_ite (cLe rfl (eLit 0) ⟨h1, (by decide)⟩) ?_ ?_
  · refine si_b si_gI fun v2 => ?_
    refine si_ig fun h2 => ?_
    refine si_ite (cEq rfl (eLit 16) ⟨h2, (by decide)⟩) ?_ ?_
    · refine si_b (v_N12_no (eLit 9)) fun v3 => ?_
      exact si_re rfl
    · refine si_b (v_N12_mark rfl 47) fun _ => ?_
      refine si_b (v_N12_mark rfl 48) fun _ => ?_
      refine si_b si_gI fun v4 => ?_
      exact (v_N12_together_63 LFU rfl rfl (eLit 0) (eLit 0))
  · refine si_b (v_N12_no rfl) fun v5 => ?_
    exact si_re rfl
def I12_status : IM Int :=
  ib (igI 2) fun v1 =>
  ir v1
theorem v_N12_status  : Si iI (N12_status  ) (I12_status  ) := by
  unfold N12_status I12_status
  refine si_b si_gI fun v1 => ?_
  exact si_re rfl
