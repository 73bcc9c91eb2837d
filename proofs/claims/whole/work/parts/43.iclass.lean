/-! the class over whole numbers: made by gen4.py -/
def G10_hasRoom (a1 : Int) : JM Int :=
  ib (jG 2 0) fun v1 =>
  ib (jN 2 0) fun v2 =>
  ig (R32 v2) <|
  ig (R32 (v1 + a1)) <|
  if v2 < (v1 + a1) then (jret 0) else (jret 1)
theorem v_C10_hasRoom  {n_a1 : Int32} {a1 : Int} (e_a1 : n_a1 = iI a1) : Sj iI (C10_hasRoom  n_a1) (G10_hasRoom  a1) := by
  subst e_a1
  unfold C10_hasRoom G10_hasRoom
  refine sj_b sj_G fun v1 => ?_
  refine sj_b sj_N fun v2 => ?_
  refine sj_ig fun h1 => ?_
  refine sj_ig fun h2 => ?_
  refine sj_ite (cLt rfl (eAdd rfl rfl) ⟨h1, h2⟩) ?_ ?_
  · exact sj_re (eLit 0)
  · exact sj_re (eLit 1)
def G11_refuse (a1 : Int) : JM Int :=
  ib (jP 11 0 a1) fun _ =>
  jret (-9)
theorem v_C11_refuse  {n_a1 : Int32} {a1 : Int} (e_a1 : n_a1 = iI a1) : Sj iI (C11_refuse  n_a1) (G11_refuse  a1) := by
  subst e_a1
  unfold C11_refuse G11_refuse
  refine sj_b (sj_P rfl) fun _ => ?_
  exact sj_re (eLn 9)
def G10_addWord_39 (k3 : Int → Int → JM Unit) (x1 : Int) (x2 : Int) : JM Unit :=
  (k3 x1 (x2 + (-8)))
theorem v_C10_addWord_39 {n_k3 : Int32 → Int32 → CM Unit} {k3 : Int → Int → JM Unit} (hk3 : ∀ {n0 : Int32} {z0 : Int} (_ : n0 = iI z0) {n1 : Int32} {z1 : Int} (_ : n1 = iI z1), Sj (fun x : Unit => x) (n_k3 n0 n1) (k3 z0 z1)) {n_x1 : Int32} {x1 : Int} (e_x1 : n_x1 = iI x1) {n_x2 : Int32} {x2 : Int} (e_x2 : n_x2 = iI x2) : Sj (fun x : Unit => x) (C10_addWord_39 n_k3 n_x1 n_x2) (G10_addWord_39 k3 x1 x2) := by
  subst e_x1
  subst e_x2
  unfold C10_addWord_39 G10_addWord_39
  exact (hk3 rfl (eAdd rfl (eLn 8)))
def G10_addWord_3_st (k3 : Int → Int → JM Unit) (x1 : Int) (x2 : Int) : JM Unit :=
  ig (R32 x2) <|
  if x2 < 0 then (jret ()) else (ib (jG 2 0) fun v1 =>
  ib (jN 2 0) fun v2 =>
  ig (R32 v2) <|
  ig (R32 v1) <|
  if v2 ≤ v1 then ((G10_addWord_39 k3 x1 x2)) else (ib (jG 2 0) fun v3 =>
  ib (jP 2 0 (v3 + 1)) fun _ =>
  ib (jSb 2 0 v3 (iB8 (iShr x1 x2))) fun _ =>
  (G10_addWord_39 k3 x1 x2)))
theorem v_C10_addWord_3_st {n_k3 : Int32 → Int32 → CM Unit} {k3 : Int → Int → JM Unit} (hk3 : ∀ {n0 : Int32} {z0 : Int} (_ : n0 = iI z0) {n1 : Int32} {z1 : Int} (_ : n1 = iI z1), Sj (fun x : Unit => x) (n_k3 n0 n1) (k3 z0 z1)) {n_x1 : Int32} {x1 : Int} (e_x1 : n_x1 = iI x1) {n_x2 : Int32} {x2 : Int} (e_x2 : n_x2 = iI x2) : Sj (fun x : Unit => x) (C10_addWord_3_st n_k3 n_x1 n_x2) (G10_addWord_3_st k3 x1 x2) := by
  subst e_x1
  subst e_x2
  unfold C10_addWord_3_st G10_addWord_3_st
  refine sj_ig fun h1 => ?_
  refine sj_ite (cLt rfl (eLit 0) ⟨h1, (by decide)⟩) ?_ ?_
  · exact sj_rn
  · refine sj_b sj_G fun v1 => ?_
    refine sj_b sj_N fun v2 => ?_
    refine sj_ig fun h2 => ?_
    refine sj_ig fun h3 => ?_
    refine sj_ite (cLe rfl rfl ⟨h2, h3⟩) ?_ ?_
    · exact (v_C10_addWord_39 hk3 rfl rfl)
    · refine sj_b sj_G fun v3 => ?_
      refine sj_b (sj_P (eAdd rfl (eLit 1))) fun _ => ?_
      refine sj_b (sj_Sb rfl (eB8 (eShr rfl rfl))) fun _ => ?_
      exact (v_C10_addWord_39 hk3 rfl rfl)
def G10_addWord_3 : Nat → Int → Int → JM Unit
  | 0 => fun _ _ => nof
  | n + 1 => fun x1 x2 => G10_addWord_3_st  (G10_addWord_3  n) x1 x2
theorem v_C10_addWord_3  : ∀ (n : Nat) {n_x1 : Int32} {x1 : Int} (e_x1 : n_x1 = iI x1) {n_x2 : Int32} {x2 : Int} (e_x2 : n_x2 = iI x2), Sj (fun x : Unit => x) (C10_addWord_3  n n_x1 n_x2) (G10_addWord_3  n x1 x2) := by
  intro n
  induction n with
  | zero => intro n_x1 x1 e_x1 n_x2 x2 e_x2; exact sj_nf
  | succ n ih => intro n_x1 x1 e_x1 n_x2 x2 e_x2; exact v_C10_addWord_3_st  (ih) e_x1 e_x2
def G10_addWord (a1 : Int) : JM Unit :=
  (G10_addWord_3 LFU a1 24)
theorem v_C10_addWord  {n_a1 : Int32} {a1 : Int} (e_a1 : n_a1 = iI a1) : Sj (fun x : Unit => x) (C10_addWord  n_a1) (G10_addWord  a1) := by
  subst e_a1
  unfold C10_addWord G10_addWord
  exact (v_C10_addWord_3 LFU rfl (eLit 24))
def G11_answer (a1 : Int) : JM Int :=
  ib (jP 11 0 0) fun _ =>
  jret a1
theorem v_C11_answer  {n_a1 : Int32} {a1 : Int} (e_a1 : n_a1 = iI a1) : Sj iI (C11_answer  n_a1) (G11_answer  a1) := by
  subst e_a1
  unfold C11_answer G11_answer
  refine sj_b (sj_P (eLit 0)) fun _ => ?_
  exact sj_re rfl
def G11_feed (a1 : Int) (a2 : Int) (a3 : Int) (a4 : Int) (a5 : Int) : JM Int :=
  ib (G10_hasRoom 20) fun v1 =>
  ig (R32 v1) <|
  if v1 = 0 then (ib (G11_refuse 9) fun v2 =>
  jret v2) else (ib (G10_addWord a1) fun _ =>
  ib (G10_addWord a2) fun _ =>
  ib (G10_addWord a3) fun _ =>
  ib (G10_addWord a4) fun _ =>
  ib (G10_addWord a5) fun _ =>
  ib (jG 2 0) fun v3 =>
  ib (G11_answer v3) fun v4 =>
  jret v4)
theorem v_C11_feed  {n_a1 : Int32} {a1 : Int} (e_a1 : n_a1 = iI a1) {n_a2 : Int32} {a2 : Int} (e_a2 : n_a2 = iI a2) {n_a3 : Int32} {a3 : Int} (e_a3 : n_a3 = iI a3) {n_a4 : Int32} {a4 : Int} (e_a4 : n_a4 = iI a4) {n_a5 : Int32} {a5 : Int} (e_a5 : n_a5 = iI a5) : Sj iI (C11_feed  n_a1 n_a2 n_a3 n_a4 n_a5) (G11_feed  a1 a2 a3 a4 a5) := by
  subst e_a1
  subst e_a2
  subst e_a3
  subst e_a4
  subst e_a5
  unfold C11_feed G11_feed
  refine sj_b (v_C10_hasRoom (eLit 20)) fun v1 => ?_
  refine sj_ig fun h1 => ?_
  refine sj_ite (cEq rfl (eLit 0) ⟨h1, (by decide)⟩) ?_ ?_
  · refine sj_b (v_C11_refuse (eLit 9)) fun v2 => ?_
    exact sj_re rfl
  · refine sj_b (v_C10_addWord rfl) fun _ => ?_
    refine sj_b (v_C10_addWord rfl) fun _ => ?_
    refine sj_b (v_C10_addWord rfl) fun _ => ?_
    refine sj_b (v_C10_addWord rfl) fun _ => ?_
    refine sj_b (v_C10_addWord rfl) fun _ => ?_
    refine sj_b sj_G fun v3 => ?_
    refine sj_b (v_C11_answer rfl) fun v4 => ?_
    exact sj_re rfl
def G10_cutTo (a1 : Int) : JM Unit :=
  ib (jP 2 0 a1) fun _ =>
  jret ()
theorem v_C10_cutTo  {n_a1 : Int32} {a1 : Int} (e_a1 : n_a1 = iI a1) : Sj (fun x : Unit => x) (C10_cutTo  n_a1) (G10_cutTo  a1) := by
  subst e_a1
  unfold C10_cutTo G10_cutTo
  refine sj_b (sj_P rfl) fun _ => ?_
  exact sj_rn
def G11_end_15 : JM Int :=
  ib (G11_refuse 3) fun v1 =>
  jret v1
theorem v_C11_end_15  : Sj iI (C11_end_15  ) (G11_end_15  ) := by
  unfold C11_end_15 G11_end_15
  refine sj_b (v_C11_refuse (eLit 3)) fun v1 => ?_
  exact sj_re rfl
def G11_end (a1 : Int) : JM Int :=
  ig (R32 a1) <|
  if a1 < 0 then (G11_end_15) else (ib (jG 2 0) fun v1 =>
  ig (R32 v1) <|
  if a1 ≤ v1 then (ib (G10_cutTo a1) fun _ =>
  ib (G11_answer a1) fun v2 =>
  jret v2) else (G11_end_15))
theorem v_C11_end  {n_a1 : Int32} {a1 : Int} (e_a1 : n_a1 = iI a1) : Sj iI (C11_end  n_a1) (G11_end  a1) := by
  subst e_a1
  unfold C11_end G11_end
  refine sj_ig fun h1 => ?_
  refine sj_ite (cLt rfl (eLit 0) ⟨h1, (by decide)⟩) ?_ ?_
  · exact v_C11_end_15
  · refine sj_b sj_G fun v1 => ?_
    refine sj_ig fun h2 => ?_
    refine sj_ite (cLe rfl rfl ⟨h1, h2⟩) ?_ ?_
    · refine sj_b (v_C10_cutTo rfl) fun _ => ?_
      refine sj_b (v_C11_answer rfl) fun v2 => ?_
      exact sj_re rfl
    · exact v_C11_end_15
def G8_clear (this : Nat) : JM Unit :=
  ib (jP 1 this 0) fun _ =>
  jret ()
theorem v_C8_clear  (this : Nat) : Sj (fun x : Unit => x) (C8_clear  this) (G8_clear  this) := by
  unfold C8_clear G8_clear
  refine sj_b (sj_P (eLit 0)) fun _ => ?_
  exact sj_rn
def G4_clear : JM Unit :=
  ib (G8_clear 3) fun _ =>
  ib (G8_clear 4) fun _ =>
  ib (G8_clear 5) fun _ =>
  ib (G8_clear 6) fun _ =>
  ib (G8_clear 7) fun _ =>
  jret ()
theorem v_C4_clear  : Sj (fun x : Unit => x) (C4_clear  ) (G4_clear  ) := by
  unfold C4_clear G4_clear
  refine sj_E0 (fun _ => rfl) ?_
  refine sj_b (v_C8_clear 3) fun _ => ?_
  refine sj_E0 (fun _ => rfl) ?_
  refine sj_b (v_C8_clear 4) fun _ => ?_
  refine sj_E0 (fun _ => rfl) ?_
  refine sj_b (v_C8_clear 5) fun _ => ?_
  refine sj_E0 (fun _ => rfl) ?_
  refine sj_b (v_C8_clear 6) fun _ => ?_
  refine sj_E0 (fun _ => rfl) ?_
  refine sj_b (v_C8_clear 7) fun _ => ?_
  exact sj_rn
def G5_clear : JM Unit :=
  ib (G8_clear 8) fun _ =>
  ib (G8_clear 9) fun _ =>
  ib (G8_clear 10) fun _ =>
  ib (G8_clear 11) fun _ =>
  jret ()
theorem v_C5_clear  : Sj (fun x : Unit => x) (C5_clear  ) (G5_clear  ) := by
  unfold C5_clear G5_clear
  refine sj_E0 (fun _ => rfl) ?_
  refine sj_b (v_C8_clear 8) fun _ => ?_
  refine sj_E0 (fun _ => rfl) ?_
  refine sj_b (v_C8_clear 9) fun _ => ?_
  refine sj_E0 (fun _ => rfl) ?_
  refine sj_b (v_C8_clear 10) fun _ => ?_
  refine sj_E0 (fun _ => rfl) ?_
  refine sj_b (v_C8_clear 11) fun _ => ?_
  exact sj_rn
def G10_byteAt (a1 : Int) : JM Int :=
  ig (R32 a1) <|
  if a1 < 0 then (jret (-1)) else (ib (jG 2 0) fun v1 =>
  ig (R32 v1) <|
  if v1 ≤ a1 then (jret (-1)) else (ib (jN 2 0) fun v2 =>
  ig (R32 v2) <|
  if a1 < v2 then (ib (jAb 2 0 a1) fun v3 =>
  jret (iAnd v3 255)) else (jret (-1))))
theorem v_C10_byteAt  {n_a1 : Int32} {a1 : Int} (e_a1 : n_a1 = iI a1) : Sj iI (C10_byteAt  n_a1) (G10_byteAt  a1) := by
  subst e_a1
  unfold C10_byteAt G10_byteAt
  refine sj_ig fun h1 => ?_
  refine sj_ite (cLt rfl (eLit 0) ⟨h1, (by decide)⟩) ?_ ?_
  · exact sj_re (eLn 1)
  · refine sj_b sj_G fun v1 => ?_
    refine sj_ig fun h2 => ?_
    refine sj_ite (cLe rfl rfl ⟨h2, h1⟩) ?_ ?_
    · exact sj_re (eLn 1)
    · refine sj_b sj_N fun v2 => ?_
      refine sj_ig fun h3 => ?_
      refine sj_ite (cLt rfl rfl ⟨h1, h3⟩) ?_ ?_
      · refine sj_b (sj_Ab rfl) fun v3 => ?_
        exact sj_re (eAnd rfl (eLit 255))
      · exact sj_re (eLn 1)
def G10_isLetter (a0 : Int) : JM Int :=
  ig (R32 a0) <|
  if a0 < 97 then (jret 0) else (if 122 < a0 then (jret 0) else (jret 1))
theorem v_C10_isLetter  {n_a0 : Int32} {a0 : Int} (e_a0 : n_a0 = iI a0) : Sj iI (C10_isLetter  n_a0) (G10_isLetter  a0) := by
  subst e_a0
  unfold C10_isLetter G10_isLetter
  refine sj_ig fun h1 => ?_
  refine sj_ite (cLt rfl (eLit 97) ⟨h1, (by decide)⟩) ?_ ?_
  · exact sj_re (eLit 0)
  · refine sj_ite (cLt (eLit 122) rfl ⟨(by decide), h1⟩) ?_ ?_
    · exact sj_re (eLit 0)
    · exact sj_re (eLit 1)
def G10_isDigit (a0 : Int) : JM Int :=
  ig (R32 a0) <|
  if a0 < 48 then (jret 0) else (if 57 < a0 then (jret 0) else (jret 1))
theorem v_C10_isDigit  {n_a0 : Int32} {a0 : Int} (e_a0 : n_a0 = iI a0) : Sj iI (C10_isDigit  n_a0) (G10_isDigit  a0) := by
  subst e_a0
  unfold C10_isDigit G10_isDigit
  refine sj_ig fun h1 => ?_
  refine sj_ite (cLt rfl (eLit 48) ⟨h1, (by decide)⟩) ?_ ?_
  · exact sj_re (eLit 0)
  · refine sj_ite (cLt (eLit 57) rfl ⟨(by decide), h1⟩) ?_ ?_
    · exact sj_re (eLit 0)
    · exact sj_re (eLit 1)
def G10_widthAt_72 (k32 : Int → Int → Int → JM Int) (x1 : Int) (x3 : Int) (x4 : Int) : JM Int :=
  (k32 x1 x3 (x4 + 1))
theorem v_C10_widthAt_72 {n_k32 : Int32 → Int32 → Int32 → CM Int32} {k32 : Int → Int → Int → JM Int} (hk32 : ∀ {n0 : Int32} {z0 : Int} (_ : n0 = iI z0) {n1 : Int32} {z1 : Int} (_ : n1 = iI z1) {n2 : Int32} {z2 : Int} (_ : n2 = iI z2), Sj iI (n_k32 n0 n1 n2) (k32 z0 z1 z2)) {n_x1 : Int32} {x1 : Int} (e_x1 : n_x1 = iI x1) {n_x3 : Int32} {x3 : Int} (e_x3 : n_x3 = iI x3) {n_x4 : Int32} {x4 : Int} (e_x4 : n_x4 = iI x4) : Sj iI (C10_widthAt_72 n_k32 n_x1 n_x3 n_x4) (G10_widthAt_72 k32 x1 x3 x4) := by
  subst e_x1
  subst e_x3
  subst e_x4
  unfold C10_widthAt_72 G10_widthAt_72
  exact (hk32 rfl rfl (eAdd rfl (eLit 1)))
def G10_widthAt_32_st (k32 : Int → Int → Int → JM Int) (x1 : Int) (x3 : Int) (x4 : Int) : JM Int :=
  ib (jG 2 0) fun v1 =>
  ig (R32 v1) <|
  ig (R32 x4) <|
  if v1 ≤ x4 then (jret (x4 - x1)) else (ig (R32 x3) <|
  if x3 = 0 then (ib (G10_byteAt x4) fun v2 =>
  ib (G10_isDigit v2) fun v3 =>
  ig (R32 v3) <|
  if v3 = 0 then (jret (x4 - x1)) else ((G10_widthAt_72 k32 x1 x3 x4))) else (ib (G10_byteAt x4) fun v4 =>
  ib (G10_isLetter v4) fun v5 =>
  ig (R32 v5) <|
  if v5 = 0 then (jret (x4 - x1)) else ((G10_widthAt_72 k32 x1 x3 x4))))
theorem v_C10_widthAt_32_st {n_k32 : Int32 → Int32 → Int32 → CM Int32} {k32 : Int → Int → Int → JM Int} (hk32 : ∀ {n0 : Int32} {z0 : Int} (_ : n0 = iI z0) {n1 : Int32} {z1 : Int} (_ : n1 = iI z1) {n2 : Int32} {z2 : Int} (_ : n2 = iI z2), Sj iI (n_k32 n0 n1 n2) (k32 z0 z1 z2)) {n_x1 : Int32} {x1 : Int} (e_x1 : n_x1 = iI x1) {n_x3 : Int32} {x3 : Int} (e_x3 : n_x3 = iI x3) {n_x4 : Int32} {x4 : Int} (e_x4 : n_x4 = iI x4) : Sj iI (C10_widthAt_32_st n_k32 n_x1 n_x3 n_x4) (G10_widthAt_32_st k32 x1 x3 x4) := by
  subst e_x1
  subst e_x3
  subst e_x4
  unfold C10_widthAt_32_st G10_widthAt_32_st
  refine sj_b sj_G fun v1 => ?_
  refine sj_ig fun h1 => ?_
  refine sj_ig fun h2 => ?_
  refine sj_ite (cLe rfl rfl ⟨h1, h2⟩) ?_ ?_
  · exact sj_re (eSub rfl rfl)
  · refine sj_ig fun h3 => ?_
    refine sj_ite (cEq rfl (eLit 0) ⟨h3, (by decide)⟩) ?_ ?_
    · refine sj_b (v_C10_byteAt rfl) fun v2 => ?_
      refine sj_b (v_C10_isDigit rfl) fun v3 => ?_
      refine sj_ig fun h4 => ?_
      refine sj_ite (cEq rfl (eLit 0) ⟨h4, (by decide)⟩) ?_ ?_
      · exact sj_re (eSub rfl rfl)
      · exact (v_C10_widthAt_72 hk32 rfl rfl rfl)
    · refine sj_b (v_C10_byteAt rfl) fun v4 => ?_
      refine sj_b (v_C10_isLetter rfl) fun v5 => ?_
      refine sj_ig fun h4 => ?_
      refine sj_ite (cEq rfl (eLit 0) ⟨h4, (by decide)⟩) ?_ ?_
      · exact sj_re (eSub rfl rfl)
      · exact (v_C10_widthAt_72 hk32 rfl rfl rfl)
def G10_widthAt_32 : Nat → Int → Int → Int → JM Int
  | 0 => fun _ _ _ => nof
  | n + 1 => fun x1 x3 x4 => G10_widthAt_32_st  (G10_widthAt_32  n) x1 x3 x4
theorem v_C10_widthAt_32  : ∀ (n : Nat) {n_x1 : Int32} {x1 : Int} (e_x1 : n_x1 = iI x1) {n_x3 : Int32} {x3 : Int} (e_x3 : n_x3 = iI x3) {n_x4 : Int32} {x4 : Int} (e_x4 : n_x4 = iI x4), Sj iI (C10_widthAt_32  n n_x1 n_x3 n_x4) (G10_widthAt_32  n x1 x3 x4) := by
  intro n
  induction n with
  | zero => intro n_x1 x1 e_x1 n_x3 x3 e_x3 n_x4 x4 e_x4; exact sj_nf
  | succ n ih => intro n_x1 x1 e_x1 n_x3 x3 e_x3 n_x4 x4 e_x4; exact v_C10_widthAt_32_st  (ih) e_x1 e_x3 e_x4
def G10_widthAt_22 (x1 : Int) (x2 : Int) : JM Int :=
  ib (G10_isLetter x2) fun v1 =>
  (G10_widthAt_32 LFU x1 v1 (x1 + 1))
theorem v_C10_widthAt_22  {n_x1 : Int32} {x1 : Int} (e_x1 : n_x1 = iI x1) {n_x2 : Int32} {x2 : Int} (e_x2 : n_x2 = iI x2) : Sj iI (C10_widthAt_22  n_x1 n_x2) (G10_widthAt_22  x1 x2) := by
  subst e_x1
  subst e_x2
  unfold C10_widthAt_22 G10_widthAt_22
  refine sj_b (v_C10_isLetter rfl) fun v1 => ?_
  exact (v_C10_widthAt_32 LFU rfl rfl (eAdd rfl (eLit 1)))
def G10_widthAt (a1 : Int) : JM Int :=
  ib (G10_byteAt a1) fun v1 =>
  ib (G10_isLetter v1) fun v2 =>
  ig (R32 v2) <|
  if v2 = 0 then (ib (G10_isDigit v1) fun v3 =>
  ig (R32 v3) <|
  if v3 = 0 then (jret 1) else ((G10_widthAt_22 a1 v1))) else ((G10_widthAt_22 a1 v1))
theorem v_C10_widthAt  {n_a1 : Int32} {a1 : Int} (e_a1 : n_a1 = iI a1) : Sj iI (C10_widthAt  n_a1) (G10_widthAt  a1) := by
  subst e_a1
  unfold C10_widthAt G10_widthAt
  refine sj_b (v_C10_byteAt rfl) fun v1 => ?_
  refine sj_b (v_C10_isLetter rfl) fun v2 => ?_
  refine sj_ig fun h1 => ?_
  refine sj_ite (cEq rfl (eLit 0) ⟨h1, (by decide)⟩) ?_ ?_
  · refine sj_b (v_C10_isDigit rfl) fun v3 => ?_
    refine sj_ig fun h2 => ?_
    refine sj_ite (cEq rfl (eLit 0) ⟨h2, (by decide)⟩) ?_ ?_
    · exact sj_re (eLit 1)
    · exact (v_C10_widthAt_22 rfl rfl)
  · exact (v_C10_widthAt_22 rfl rfl)
def G10_isMark (a0 : Int) : JM Int :=
  ig (R32 a0) <|
  if a0 = 40 then (jret 1) else (if a0 = 41 then (jret 1) else (if a0 = 44 then (jret 1) else (if a0 = 45 then (jret 1) else (if a0 = 43 then (jret 1) else (if a0 = 61 then (jret 1) else (jret 0))))))
theorem v_C10_isMark  {n_a0 : Int32} {a0 : Int} (e_a0 : n_a0 = iI a0) : Sj iI (C10_isMark  n_a0) (G10_isMark  a0) := by
  subst e_a0
  unfold C10_isMark G10_isMark
  refine sj_ig fun h1 => ?_
  refine sj_ite (cEq rfl (eLit 40) ⟨h1, (by decide)⟩) ?_ ?_
  · exact sj_re (eLit 1)
  · refine sj_ite (cEq rfl (eLit 41) ⟨h1, (by decide)⟩) ?_ ?_
    · exact sj_re (eLit 1)
    · refine sj_ite (cEq rfl (eLit 44) ⟨h1, (by decide)⟩) ?_ ?_
      · exact sj_re (eLit 1)
      · refine sj_ite (cEq rfl (eLit 45) ⟨h1, (by decide)⟩) ?_ ?_
        · exact sj_re (eLit 1)
        · refine sj_ite (cEq rfl (eLit 43) ⟨h1, (by decide)⟩) ?_ ?_
          · exact sj_re (eLit 1)
          · refine sj_ite (cEq rfl (eLit 61) ⟨h1, (by decide)⟩) ?_ ?_
            · exact sj_re (eLit 1)
            · exact sj_re (eLit 0)
def G10_signOfWord_120 (x2 : Int) (x5 : Int) : JM Int :=
  ib (jSl 0) fun v1 =>
  jret ((((x2 - 1) * v1) + x5) + 1)
theorem v_C10_signOfWord_120  {n_x2 : Int32} {x2 : Int} (e_x2 : n_x2 = iI x2) {n_x5 : Int32} {x5 : Int} (e_x5 : n_x5 = iI x5) : Sj iI (C10_signOfWord_120  n_x2 n_x5) (G10_signOfWord_120  x2 x5) := by
  subst e_x2
  subst e_x5
  unfold C10_signOfWord_120 G10_signOfWord_120
  refine sj_b sj_Sl fun v1 => ?_
  exact sj_re (eAdd (eAdd (eMul (eSub rfl (eLit 1)) rfl) rfl) (eLit 1))
def G10_signOfWord_94_st (k94 : Int → Int → Int → Int → Int → JM Int) (x1 : Int) (x2 : Int) (x3 : Int) (x5 : Int) (x6 : Int) : JM Int :=
  ig (R32 (x1 + x2)) <|
  ig (R32 x6) <|
  if (x1 + x2) ≤ x6 then ((G10_signOfWord_120 x2 x5)) else (ib (G10_byteAt x6) fun v1 =>
  ig (R32 v1) <|
  ig (R32 x3) <|
  if v1 = x3 then ((k94 x1 x2 x3 x5 (x6 + 1))) else (jret (-1)))
theorem v_C10_signOfWord_94_st {n_k94 : Int32 → Int32 → Int32 → Int32 → Int32 → CM Int32} {k94 : Int → Int → Int → Int → Int → JM Int} (hk94 : ∀ {n0 : Int32} {z0 : Int} (_ : n0 = iI z0) {n1 : Int32} {z1 : Int} (_ : n1 = iI z1) {n2 : Int32} {z2 : Int} (_ : n2 = iI z2) {n3 : Int32} {z3 : Int} (_ : n3 = iI z3) {n4 : Int32} {z4 : Int} (_ : n4 = iI z4), Sj iI (n_k94 n0 n1 n2 n3 n4) (k94 z0 z1 z2 z3 z4)) {n_x1 : Int32} {x1 : Int} (e_x1 : n_x1 = iI x1) {n_x2 : Int32} {x2 : Int} (e_x2 : n_x2 = iI x2) {n_x3 : Int32} {x3 : Int} (e_x3 : n_x3 = iI x3) {n_x5 : Int32} {x5 : Int} (e_x5 : n_x5 = iI x5) {n_x6 : Int32} {x6 : Int} (e_x6 : n_x6 = iI x6) : Sj iI (C10_signOfWord_94_st n_k94 n_x1 n_x2 n_x3 n_x5 n_x6) (G10_signOfWord_94_st k94 x1 x2 x3 x5 x6) := by
  subst e_x1
  subst e_x2
  subst e_x3
  subst e_x5
  subst e_x6
  unfold C10_signOfWord_94_st G10_signOfWord_94_st
  refine sj_ig fun h1 => ?_
  refine sj_ig fun h2 => ?_
  refine sj_ite (cLe (eAdd rfl rfl) rfl ⟨h1, h2⟩) ?_ ?_
  · exact (v_C10_signOfWord_120 rfl rfl)
  · refine sj_b (v_C10_byteAt rfl) fun v1 => ?_
    refine sj_ig fun h3 => ?_
    refine sj_ig fun h4 => ?_
    refine sj_ite (cEq rfl rfl ⟨h3, h4⟩) ?_ ?_
    · exact (hk94 rfl rfl rfl rfl (eAdd rfl (eLit 1)))
    · exact sj_re (eLn 1)
def G10_signOfWord_94 : Nat → Int → Int → Int → Int → Int → JM Int
  | 0 => fun _ _ _ _ _ => nof
  | n + 1 => fun x1 x2 x3 x5 x6 => G10_signOfWord_94_st  (G10_signOfWord_94  n) x1 x2 x3 x5 x6
theorem v_C10_signOfWord_94  : ∀ (n : Nat) {n_x1 : Int32} {x1 : Int} (e_x1 : n_x1 = iI x1) {n_x2 : Int32} {x2 : Int} (e_x2 : n_x2 = iI x2) {n_x3 : Int32} {x3 : Int} (e_x3 : n_x3 = iI x3) {n_x5 : Int32} {x5 : Int} (e_x5 : n_x5 = iI x5) {n_x6 : Int32} {x6 : Int} (e_x6 : n_x6 = iI x6), Sj iI (C10_signOfWord_94  n n_x1 n_x2 n_x3 n_x5 n_x6) (G10_signOfWord_94  n x1 x2 x3 x5 x6) := by
  intro n
  induction n with
  | zero => intro n_x1 x1 e_x1 n_x2 x2 e_x2 n_x3 x3 e_x3 n_x5 x5 e_x5 n_x6 x6 e_x6; exact sj_nf
  | succ n ih => intro n_x1 x1 e_x1 n_x2 x2 e_x2 n_x3 x3 e_x3 n_x5 x5 e_x5 n_x6 x6 e_x6; exact v_C10_signOfWord_94_st  (ih) e_x1 e_x2 e_x3 e_x5 e_x6
def G10_signOfWord_68 (x1 : Int) (x2 : Int) (x3 : Int) : JM Int :=
  ib (jSi 0 (iC16 x3)) fun v1 =>
  ig (R32 v1) <|
  if v1 < 0 then (jret (-1)) else (ig (R32 x2) <|
  if x2 ≤ 3 then ((G10_signOfWord_94 LFU x1 x2 x3 v1 (x1 + 1))) else (jret (-1)))
theorem v_C10_signOfWord_68  {n_x1 : Int32} {x1 : Int} (e_x1 : n_x1 = iI x1) {n_x2 : Int32} {x2 : Int} (e_x2 : n_x2 = iI x2) {n_x3 : Int32} {x3 : Int} (e_x3 : n_x3 = iI x3) : Sj iI (C10_signOfWord_68  n_x1 n_x2 n_x3) (G10_signOfWord_68  x1 x2 x3) := by
  subst e_x1
  subst e_x2
  subst e_x3
  unfold C10_signOfWord_68 G10_signOfWord_68
  refine sj_b (sj_Si (eC16 rfl)) fun v1 => ?_
  refine sj_ig fun h1 => ?_
  refine sj_ite (cLt rfl (eLit 0) ⟨h1, (by decide)⟩) ?_ ?_
  · exact sj_re (eLn 1)
  · refine sj_ig fun h2 => ?_
    refine sj_ite (cLe rfl (eLit 3) ⟨h2, (by decide)⟩) ?_ ?_
    · exact (v_C10_signOfWord_94 LFU rfl rfl rfl rfl (eAdd rfl (eLit 1)))
    · exact sj_re (eLn 1)
def G10_signOfWord_35 (x1 : Int) (x2 : Int) (x3 : Int) (x4 : Int) : JM Int :=
  ig (R32 x2) <|
  if x2 = 3 then (ig (R32 x3) <|
  if x3 = 99 then (ig (R32 x4) <|
  if x4 = 104 then (ib (G10_byteAt (x1 + 2)) fun v1 =>
  ig (R32 v1) <|
  if v1 = 105 then (jret 70) else ((G10_signOfWord_68 x1 x2 x3))) else ((G10_signOfWord_68 x1 x2 x3))) else ((G10_signOfWord_68 x1 x2 x3))) else ((G10_signOfWord_68 x1 x2 x3))
theorem v_C10_signOfWord_35  {n_x1 : Int32} {x1 : Int} (e_x1 : n_x1 = iI x1) {n_x2 : Int32} {x2 : Int} (e_x2 : n_x2 = iI x2) {n_x3 : Int32} {x3 : Int} (e_x3 : n_x3 = iI x3) {n_x4 : Int32} {x4 : Int} (e_x4 : n_x4 = iI x4) : Sj iI (C10_signOfWord_35  n_x1 n_x2 n_x3 n_x4) (G10_signOfWord_35  x1 x2 x3 x4) := by
  subst e_x1
  subst e_x2
  subst e_x3
  subst e_x4
  unfold C10_signOfWord_35 G10_signOfWord_35
  refine sj_ig fun h1 => ?_
  refine sj_ite (cEq rfl (eLit 3) ⟨h1, (by decide)⟩) ?_ ?_
  · refine sj_ig fun h2 => ?_
    refine sj_ite (cEq rfl (eLit 99) ⟨h2, (by decide)⟩) ?_ ?_
    · refine sj_ig fun h3 => ?_
      refine sj_ite (cEq rfl (eLit 104) ⟨h3, (by decide)⟩) ?_ ?_
      · refine sj_b (v_C10_byteAt (eAdd rfl (eLit 2))) fun v1 => ?_
        refine sj_ig fun h4 => ?_
        refine sj_ite (cEq rfl (eLit 105) ⟨h4, (by decide)⟩) ?_ ?_
        · exact sj_re (eLit 70)
        · exact (v_C10_signOfWord_68 rfl rfl rfl)
      · exact (v_C10_signOfWord_68 rfl rfl rfl)
    · exact (v_C10_signOfWord_68 rfl rfl rfl)
  · exact (v_C10_signOfWord_68 rfl rfl rfl)
def G10_signOfWord (a1 : Int) (a2 : Int) : JM Int :=
  ib (G10_byteAt a1) fun v1 =>
  ib (G10_byteAt (a1 + 1)) fun v2 =>
  ig (R32 a2) <|
  if a2 = 2 then (ig (R32 v1) <|
  if v1 = 112 then (ig (R32 v2) <|
  if v2 = 105 then (jret 0) else ((G10_signOfWord_35 a1 a2 v1 v2))) else ((G10_signOfWord_35 a1 a2 v1 v2))) else ((G10_signOfWord_35 a1 a2 v1 v2))
theorem v_C10_signOfWord  {n_a1 : Int32} {a1 : Int} (e_a1 : n_a1 = iI a1) {n_a2 : Int32} {a2 : Int} (e_a2 : n_a2 = iI a2) : Sj iI (C10_signOfWord  n_a1 n_a2) (G10_signOfWord  a1 a2) := by
  subst e_a1
  subst e_a2
  unfold C10_signOfWord G10_signOfWord
  refine sj_b (v_C10_byteAt rfl) fun v1 => ?_
  refine sj_b (v_C10_byteAt (eAdd rfl (eLit 1))) fun v2 => ?_
  refine sj_ig fun h1 => ?_
  refine sj_ite (cEq rfl (eLit 2) ⟨h1, (by decide)⟩) ?_ ?_
  · refine sj_ig fun h2 => ?_
    refine sj_ite (cEq rfl (eLit 112) ⟨h2, (by decide)⟩) ?_ ?_
    · refine sj_ig fun h3 => ?_
      refine sj_ite (cEq rfl (eLit 105) ⟨h3, (by decide)⟩) ?_ ?_
      · exact sj_re (eLit 0)
      · exact (v_C10_signOfWord_35 rfl rfl rfl rfl)
    · exact (v_C10_signOfWord_35 rfl rfl rfl rfl)
  · exact (v_C10_signOfWord_35 rfl rfl rfl rfl)
def G10_valueOfNumber_5_st (k5 : Int → Int → Int → Int → JM Int) (x1 : Int) (x2 : Int) (x3 : Int) (x4 : Int) : JM Int :=
  ig (R32 (x1 + x2)) <|
  ig (R32 x4) <|
  if (x1 + x2) ≤ x4 then (jret x3) else (ib (G10_byteAt x4) fun v1 =>
  (k5 x1 x2 (((x3 * 10) + v1) - 48) (x4 + 1)))
theorem v_C10_valueOfNumber_5_st {n_k5 : Int32 → Int32 → Int32 → Int32 → CM Int32} {k5 : Int → Int → Int → Int → JM Int} (hk5 : ∀ {n0 : Int32} {z0 : Int} (_ : n0 = iI z0) {n1 : Int32} {z1 : Int} (_ : n1 = iI z1) {n2 : Int32} {z2 : Int} (_ : n2 = iI z2) {n3 : Int32} {z3 : Int} (_ : n3 = iI z3), Sj iI (n_k5 n0 n1 n2 n3) (k5 z0 z1 z2 z3)) {n_x1 : Int32} {x1 : Int} (e_x1 : n_x1 = iI x1) {n_x2 : Int32} {x2 : Int} (e_x2 : n_x2 = iI x2) {n_x3 : Int32} {x3 : Int} (e_x3 : n_x3 = iI x3) {n_x4 : Int32} {x4 : Int} (e_x4 : n_x4 = iI x4) : Sj iI (C10_valueOfNumber_5_st n_k5 n_x1 n_x2 n_x3 n_x4) (G10_valueOfNumber_5_st k5 x1 x2 x3 x4) := by
  subst e_x1
  subst e_x2
  subst e_x3
  subst e_x4
  unfold C10_valueOfNumber_5_st G10_valueOfNumber_5_st
  refine sj_ig fun h1 => ?_
  refine sj_ig fun h2 => ?_
  refine sj_ite (cLe (eAdd rfl rfl) rfl ⟨h1, h2⟩) ?_ ?_
  · exact sj_re rfl
  · refine sj_b (v_C10_byteAt rfl) fun v1 => ?_
    exact (hk5 rfl rfl (eSub (eAdd (eMul rfl (eLit 10)) rfl) (eLit 48)) (eAdd rfl (eLit 1)))
def G10_valueOfNumber_5 : Nat → Int → Int → Int → Int → JM Int
  | 0 => fun _ _ _ _ => nof
  | n + 1 => fun x1 x2 x3 x4 => G10_valueOfNumber_5_st  (G10_valueOfNumber_5  n) x1 x2 x3 x4
theorem v_C10_valueOfNumber_5  : ∀ (n : Nat) {n_x1 : Int32} {x1 : Int} (e_x1 : n_x1 = iI x1) {n_x2 : Int32} {x2 : Int} (e_x2 : n_x2 = iI x2) {n_x3 : Int32} {x3 : Int} (e_x3 : n_x3 = iI x3) {n_x4 : Int32} {x4 : Int} (e_x4 : n_x4 = iI x4), Sj iI (C10_valueOfNumber_5  n n_x1 n_x2 n_x3 n_x4) (G10_valueOfNumber_5  n x1 x2 x3 x4) := by
  intro n
  induction n with
  | zero => intro n_x1 x1 e_x1 n_x2 x2 e_x2 n_x3 x3 e_x3 n_x4 x4 e_x4; exact sj_nf
  | succ n ih => intro n_x1 x1 e_x1 n_x2 x2 e_x2 n_x3 x3 e_x3 n_x4 x4 e_x4; exact v_C10_valueOfNumber_5_st  (ih) e_x1 e_x2 e_x3 e_x4
def G10_valueOfNumber (a1 : Int) (a2 : Int) : JM Int :=
  (G10_valueOfNumber_5 LFU a1 a2 0 a1)
theorem v_C10_valueOfNumber  {n_a1 : Int32} {a1 : Int} (e_a1 : n_a1 = iI a1) {n_a2 : Int32} {a2 : Int} (e_a2 : n_a2 = iI a2) : Sj iI (C10_valueOfNumber  n_a1 n_a2) (G10_valueOfNumber  a1 a2) := by
  subst e_a1
  subst e_a2
  unfold C10_valueOfNumber G10_valueOfNumber
  exact (v_C10_valueOfNumber_5 LFU rfl rfl (eLit 0) rfl)
def G8_add (this : Nat) (a1 : Int) : JM Int :=
  ib (jG 1 this) fun v1 =>
  ib (jE (1, this)) fun _ =>
  ib (jN 1 this) fun v2 =>
  ig (R32 v1) <|
  ig (R32 v2) <|
  if v1 < v2 then (ib (jE (1, this)) fun _ =>
  ib (jG 1 this) fun v3 =>
  ib (jP 1 this (v3 + 1)) fun _ =>
  ib (jS 1 this v3 a1) fun _ =>
  jret 1) else (jret 0)
theorem v_C8_add  (this : Nat) {n_a1 : Int32} {a1 : Int} (e_a1 : n_a1 = iI a1) : Sj iI (C8_add  this n_a1) (G8_add  this a1) := by
  subst e_a1
  unfold C8_add G8_add
  refine sj_b sj_G fun v1 => ?_
  refine sj_b sj_E fun _ => ?_
  refine sj_b sj_N fun v2 => ?_
  refine sj_ig fun h1 => ?_
  refine sj_ig fun h2 => ?_
  refine sj_ite (cLt rfl rfl ⟨h1, h2⟩) ?_ ?_
  · refine sj_b sj_E fun _ => ?_
    refine sj_b sj_G fun v3 => ?_
    refine sj_b (sj_P (eAdd rfl (eLit 1))) fun _ => ?_
    refine sj_b (sj_S rfl rfl) fun _ => ?_
    exact sj_re (eLit 1)
  · exact sj_re (eLit 0)
def G10_addPiece_77 (x1 : Int) (x4 : Int) (x5 : Int) : JM Unit :=
  ib (G8_add 0 x4) fun v1 =>
  ib (G8_add 1 x1) fun v2 =>
  ib (G8_add 2 x5) fun v3 =>
  jret ()
theorem v_C10_addPiece_77  {n_x1 : Int32} {x1 : Int} (e_x1 : n_x1 = iI x1) {n_x4 : Int32} {x4 : Int} (e_x4 : n_x4 = iI x4) {n_x5 : Int32} {x5 : Int} (e_x5 : n_x5 = iI x5) : Sj (fun x : Unit => x) (C10_addPiece_77  n_x1 n_x4 n_x5) (G10_addPiece_77  x1 x4 x5) := by
  subst e_x1
  subst e_x4
  subst e_x5
  unfold C10_addPiece_77 G10_addPiece_77
  refine sj_E0 (fun _ => rfl) ?_
  refine sj_b (v_C8_add 0 rfl) fun v1 => ?_
  refine sj_E0 (fun _ => rfl) ?_
  refine sj_b (v_C8_add 1 rfl) fun v2 => ?_
  refine sj_E0 (fun _ => rfl) ?_
  refine sj_b (v_C8_add 2 rfl) fun v3 => ?_
  exact sj_rn
def G10_addPiece_49 (x1 : Int) (x5 : Int) (y0 : Int) : JM Unit :=
  (G10_addPiece_77 x1 y0 x5)
theorem v_C10_addPiece_49  {n_x1 : Int32} {x1 : Int} (e_x1 : n_x1 = iI x1) {n_x5 : Int32} {x5 : Int} (e_x5 : n_x5 = iI x5) {n_y0 : Int32} {y0 : Int} (e_y0 : n_y0 = iI y0) : Sj (fun x : Unit => x) (C10_addPiece_49  n_x1 n_x5 n_y0) (G10_addPiece_49  x1 x5 y0) := by
  subst e_x1
  subst e_x5
  subst e_y0
  unfold C10_addPiece_49 G10_addPiece_49
  exact (v_C10_addPiece_77 rfl rfl rfl)
def G10_addPiece_18 (x1 : Int) (x2 : Int) (x3 : Int) (y0 : Int) : JM Unit :=
  ib (G10_isLetter x3) fun v1 =>
  ig (R32 v1) <|
  if v1 = 0 then (ib (G10_isDigit x3) fun v2 =>
  ig (R32 v2) <|
  if v2 = 0 then ((G10_addPiece_77 x1 y0 0)) else (ig (R32 x2) <|
  if 3 < x2 then ((G10_addPiece_77 x1 y0 0)) else (ib (G10_valueOfNumber x1 x2) fun v3 =>
  (G10_addPiece_77 x1 2 v3)))) else (ib (G10_signOfWord x1 x2) fun v4 =>
  ig (R32 v4) <|
  if v4 = (-1) then ((G10_addPiece_49 x1 v4 3)) else ((G10_addPiece_49 x1 v4 1)))
theorem v_C10_addPiece_18  {n_x1 : Int32} {x1 : Int} (e_x1 : n_x1 = iI x1) {n_x2 : Int32} {x2 : Int} (e_x2 : n_x2 = iI x2) {n_x3 : Int32} {x3 : Int} (e_x3 : n_x3 = iI x3) {n_y0 : Int32} {y0 : Int} (e_y0 : n_y0 = iI y0) : Sj (fun x : Unit => x) (C10_addPiece_18  n_x1 n_x2 n_x3 n_y0) (G10_addPiece_18  x1 x2 x3 y0) := by
  subst e_x1
  subst e_x2
  subst e_x3
  subst e_y0
  unfold C10_addPiece_18 G10_addPiece_18
  refine sj_b (v_C10_isLetter rfl) fun v1 => ?_
  refine sj_ig fun h1 => ?_
  refine sj_ite (cEq rfl (eLit 0) ⟨h1, (by decide)⟩) ?_ ?_
  · refine sj_b (v_C10_isDigit rfl) fun v2 => ?_
    refine sj_ig fun h2 => ?_
    refine sj_ite (cEq rfl (eLit 0) ⟨h2, (by decide)⟩) ?_ ?_
    · exact (v_C10_addPiece_77 rfl rfl (eLit 0))
    · refine sj_ig fun h3 => ?_
      refine sj_ite (cLt (eLit 3) rfl ⟨(by decide), h3⟩) ?_ ?_
      · exact (v_C10_addPiece_77 rfl rfl (eLit 0))
      · refine sj_b (v_C10_valueOfNumber rfl rfl) fun v3 => ?_
        exact (v_C10_addPiece_77 rfl (eLit 2) rfl)
  · refine sj_b (v_C10_signOfWord rfl rfl) fun v4 => ?_
    refine sj_ig fun h2 => ?_
    refine sj_ite (cEq rfl (eLn 1) ⟨h2, (by decide)⟩) ?_ ?_
    · exact (v_C10_addPiece_49 rfl rfl (eLit 3))
    · exact (v_C10_addPiece_49 rfl rfl (eLit 1))
def G10_addPiece (a1 : Int) (a2 : Int) : JM Unit :=
  ib (G10_byteAt a1) fun v1 =>
  ib (G10_isMark v1) fun v2 =>
  ig (R32 v2) <|
  if v2 = 0 then ((G10_addPiece_18 a1 a2 v1 3)) else ((G10_addPiece_18 a1 a2 v1 v1))
theorem v_C10_addPiece  {n_a1 : Int32} {a1 : Int} (e_a1 : n_a1 = iI a1) {n_a2 : Int32} {a2 : Int} (e_a2 : n_a2 = iI a2) : Sj (fun x : Unit => x) (C10_addPiece  n_a1 n_a2) (G10_addPiece  a1 a2) := by
  subst e_a1
  subst e_a2
  unfold C10_addPiece G10_addPiece
  refine sj_b (v_C10_byteAt rfl) fun v1 => ?_
  refine sj_b (v_C10_isMark rfl) fun v2 => ?_
  refine sj_ig fun h1 => ?_
  refine sj_ite (cEq rfl (eLit 0) ⟨h1, (by decide)⟩) ?_ ?_
  · exact (v_C10_addPiece_18 rfl rfl rfl (eLit 3))
  · exact (v_C10_addPiece_18 rfl rfl rfl rfl)
def G10_cutIntoPieces_55 (k25 : Int → JM Unit) (x1 : Int) (x2 : Int) : JM Unit :=
  ig (R32 x1) <|
  (k25 (x2 + (if x1 < 1 then 1 else x1)))
theorem v_C10_cutIntoPieces_55 {n_k25 : Int32 → CM Unit} {k25 : Int → JM Unit} (hk25 : ∀ {n0 : Int32} {z0 : Int} (_ : n0 = iI z0), Sj (fun x : Unit => x) (n_k25 n0) (k25 z0)) {n_x1 : Int32} {x1 : Int} (e_x1 : n_x1 = iI x1) {n_x2 : Int32} {x2 : Int} (e_x2 : n_x2 = iI x2) : Sj (fun x : Unit => x) (C10_cutIntoPieces_55 n_k25 n_x1 n_x2) (G10_cutIntoPieces_55 k25 x1 x2) := by
  subst e_x1
  subst e_x2
  unfold C10_cutIntoPieces_55 G10_cutIntoPieces_55
  refine sj_ig fun h1 => ?_
  exact (hk25 (eAdd rfl (eIte (cLt rfl (eLit 1) ⟨h1, (by decide)⟩) (eLit 1) rfl)))
def G10_cutIntoPieces_66 : JM Unit :=
  ib (G8_add 0 0) fun v1 =>
  ib (jG 2 0) fun v2 =>
  ib (G8_add 1 v2) fun v3 =>
  ib (G8_add 2 0) fun v4 =>
  jret ()
theorem v_C10_cutIntoPieces_66  : Sj (fun x : Unit => x) (C10_cutIntoPieces_66  ) (G10_cutIntoPieces_66  ) := by
  unfold C10_cutIntoPieces_66 G10_cutIntoPieces_66
  refine sj_E0 (fun _ => rfl) ?_
  refine sj_b (v_C8_add 0 (eLit 0)) fun v1 => ?_
  refine sj_b sj_G fun v2 => ?_
  refine sj_E0 (fun _ => rfl) ?_
  refine sj_b (v_C8_add 1 rfl) fun v3 => ?_
  refine sj_E0 (fun _ => rfl) ?_
  refine sj_b (v_C8_add 2 (eLit 0)) fun v4 => ?_
  exact sj_rn
def G10_cutIntoPieces_25_st (k25 : Int → JM Unit) (x2 : Int) : JM Unit :=
  ib (jG 2 0) fun v1 =>
  ig (R32 v1) <|
  ig (R32 x2) <|
  if v1 ≤ x2 then (G10_cutIntoPieces_66) else (ib (G10_widthAt x2) fun v2 =>
  ib (G10_byteAt x2) fun v3 =>
  ig (R32 v3) <|
  if v3 = 32 then ((G10_cutIntoPieces_55 k25 v2 x2)) else (ib (G10_addPiece x2 v2) fun _ =>
  (G10_cutIntoPieces_55 k25 v2 x2)))
theorem v_C10_cutIntoPieces_25_st {n_k25 : Int32 → CM Unit} {k25 : Int → JM Unit} (hk25 : ∀ {n0 : Int32} {z0 : Int} (_ : n0 = iI z0), Sj (fun x : Unit => x) (n_k25 n0) (k25 z0)) {n_x2 : Int32} {x2 : Int} (e_x2 : n_x2 = iI x2) : Sj (fun x : Unit => x) (C10_cutIntoPieces_25_st n_k25 n_x2) (G10_cutIntoPieces_25_st k25 x2) := by
  subst e_x2
  unfold C10_cutIntoPieces_25_st G10_cutIntoPieces_25_st
  refine sj_b sj_G fun v1 => ?_
  refine sj_ig fun h1 => ?_
  refine sj_ig fun h2 => ?_
  refine sj_ite (cLe rfl rfl ⟨h1, h2⟩) ?_ ?_
  · exact v_C10_cutIntoPieces_66
  · refine sj_b (v_C10_widthAt rfl) fun v2 => ?_
    refine sj_b (v_C10_byteAt rfl) fun v3 => ?_
    refine sj_ig fun h3 => ?_
    refine sj_ite (cEq rfl (eLit 32) ⟨h3, (by decide)⟩) ?_ ?_
    · exact (v_C10_cutIntoPieces_55 hk25 rfl rfl)
    · refine sj_b (v_C10_addPiece rfl rfl) fun _ => ?_
      exact (v_C10_cutIntoPieces_55 hk25 rfl rfl)
def G10_cutIntoPieces_25 : Nat → Int → JM Unit
  | 0 => fun _ => nof
  | n + 1 => fun x2 => G10_cutIntoPieces_25_st  (G10_cutIntoPieces_25  n) x2
theorem v_C10_cutIntoPieces_25  : ∀ (n : Nat) {n_x2 : Int32} {x2 : Int} (e_x2 : n_x2 = iI x2), Sj (fun x : Unit => x) (C10_cutIntoPieces_25  n n_x2) (G10_cutIntoPieces_25  n x2) := by
  intro n
  induction n with
  | zero => intro n_x2 x2 e_x2; exact sj_nf
  | succ n ih => intro n_x2 x2 e_x2; exact v_C10_cutIntoPieces_25_st  (ih) e_x2
def G10_cutIntoPieces : JM Unit :=
  ib (G8_clear 0) fun _ =>
  ib (G8_clear 1) fun _ =>
  ib (G8_clear 2) fun _ =>
  (G10_cutIntoPieces_25 LFU 0)
theorem v_C10_cutIntoPieces  : Sj (fun x : Unit => x) (C10_cutIntoPieces  ) (G10_cutIntoPieces  ) := by
  unfold C10_cutIntoPieces G10_cutIntoPieces
  refine sj_E0 (fun _ => rfl) ?_
  refine sj_b (v_C8_clear 0) fun _ => ?_
  refine sj_E0 (fun _ => rfl) ?_
  refine sj_b (v_C8_clear 1) fun _ => ?_
  refine sj_E0 (fun _ => rfl) ?_
  refine sj_b (v_C8_clear 2) fun _ => ?_
  exact (v_C10_cutIntoPieces_25 LFU (eLit 0))
def G7_begin : JM Unit :=
  ib (jP 3 0 0) fun _ =>
  ib (jP 5 0 (-9)) fun _ =>
  ib G4_clear fun _ =>
  ib G5_clear fun _ =>
  ib G10_cutIntoPieces fun _ =>
  jret ()
theorem v_C7_begin  : Sj (fun x : Unit => x) (C7_begin  ) (G7_begin  ) := by
  unfold C7_begin G7_begin
  refine sj_b (sj_P (eLit 0)) fun _ => ?_
  refine sj_b (sj_P (eLn 9)) fun _ => ?_
  refine sj_b v_C4_clear fun _ => ?_
  refine sj_b v_C5_clear fun _ => ?_
  refine sj_b v_C10_cutIntoPieces fun _ => ?_
  exact sj_rn
def G8_get (this : Nat) (a1 : Int) : JM Int :=
  ig (R32 a1) <|
  if a1 < 0 then (jret (-1)) else (ib (jG 1 this) fun v1 =>
  ig (R32 v1) <|
  if a1 < v1 then (ib (jE (1, this)) fun _ =>
  ib (jA 1 this a1) fun v2 =>
  jret v2) else (jret (-1)))
theorem v_C8_get  (this : Nat) {n_a1 : Int32} {a1 : Int} (e_a1 : n_a1 = iI a1) : Sj iI (C8_get  this n_a1) (G8_get  this a1) := by
  subst e_a1
  unfold C8_get G8_get
  refine sj_ig fun h1 => ?_
  refine sj_ite (cLt rfl (eLit 0) ⟨h1, (by decide)⟩) ?_ ?_
  · exact sj_re (eLn 1)
  · refine sj_b sj_G fun v1 => ?_
    refine sj_ig fun h2 => ?_
    refine sj_ite (cLt rfl rfl ⟨h1, h2⟩) ?_ ?_
    · refine sj_b sj_E fun _ => ?_
      refine sj_b (sj_A rfl) fun v2 => ?_
      exact sj_re rfl
    · exact sj_re (eLn 1)
def G7_takes (a1 : Int) : JM Int :=
  ib (jG 3 0) fun v1 =>
  ib (G8_get 0 v1) fun v2 =>
  ig (R32 v2) <|
  ig (R32 a1) <|
  if v2 = a1 then (ib (jG 3 0) fun v3 =>
  ib (G8_get 2 v3) fun v4 =>
  ib (jP 4 0 v4) fun _ =>
  ib (jG 3 0) fun v5 =>
  ib (jP 3 0 (v5 + 1)) fun _ =>
  jret 1) else (ib (jG 3 0) fun v6 =>
  ib (G8_get 1 v6) fun v7 =>
  ib (jP 5 0 v7) fun _ =>
  jret 0)
theorem v_C7_takes  {n_a1 : Int32} {a1 : Int} (e_a1 : n_a1 = iI a1) : Sj iI (C7_takes  n_a1) (G7_takes  a1) := by
  subst e_a1
  unfold C7_takes G7_takes
  refine sj_b sj_G fun v1 => ?_
  refine sj_E0 (fun _ => rfl) ?_
  refine sj_b (v_C8_get 0 rfl) fun v2 => ?_
  refine sj_ig fun h1 => ?_
  refine sj_ig fun h2 => ?_
  refine sj_ite (cEq rfl rfl ⟨h1, h2⟩) ?_ ?_
  · refine sj_b sj_G fun v3 => ?_
    refine sj_E0 (fun _ => rfl) ?_
    refine sj_b (v_C8_get 2 rfl) fun v4 => ?_
    refine sj_b (sj_P rfl) fun _ => ?_
    refine sj_b sj_G fun v5 => ?_
    refine sj_b (sj_P (eAdd rfl (eLit 1))) fun _ => ?_
    exact sj_re (eLit 1)
  · refine sj_b sj_G fun v6 => ?_
    refine sj_E0 (fun _ => rfl) ?_
    refine sj_b (v_C8_get 1 rfl) fun v7 => ?_
    refine sj_b (sj_P rfl) fun _ => ?_
    exact sj_re (eLit 0)
def G7_skips (a1 : Int) : JM Int :=
  ib (jG 3 0) fun v1 =>
  ib (G8_get 0 v1) fun v2 =>
  ig (R32 v2) <|
  ig (R32 a1) <|
  if v2 = a1 then (ib (jG 3 0) fun v3 =>
  ib (jP 3 0 (v3 + 1)) fun _ =>
  jret 1) else (jret 0)
theorem v_C7_skips  {n_a1 : Int32} {a1 : Int} (e_a1 : n_a1 = iI a1) : Sj iI (C7_skips  n_a1) (G7_skips  a1) := by
  subst e_a1
  unfold C7_skips G7_skips
  refine sj_b sj_G fun v1 => ?_
  refine sj_E0 (fun _ => rfl) ?_
  refine sj_b (v_C8_get 0 rfl) fun v2 => ?_
  refine sj_ig fun h1 => ?_
  refine sj_ig fun h2 => ?_
  refine sj_ite (cEq rfl rfl ⟨h1, h2⟩) ?_ ?_
  · refine sj_b sj_G fun v3 => ?_
    refine sj_b (sj_P (eAdd rfl (eLit 1))) fun _ => ?_
    exact sj_re (eLit 1)
  · exact sj_re (eLit 0)
def G7_readsChange_127 (x1 : Int) (y0 : Int) (y1 : Nat) : JM Int :=
  ib (jE (1, y1)) fun _ =>
  ib (G8_add y1 y0) fun v1 =>
  ib (G8_add 8 x1) fun v2 =>
  jret 1
theorem v_C7_readsChange_127  {n_x1 : Int32} {x1 : Int} (e_x1 : n_x1 = iI x1) {n_y0 : Int32} {y0 : Int} (e_y0 : n_y0 = iI y0) (y1 : Nat) : Sj iI (C7_readsChange_127  n_x1 n_y0 y1) (G7_readsChange_127  x1 y0 y1) := by
  subst e_x1
  subst e_y0
  unfold C7_readsChange_127 G7_readsChange_127
  refine sj_b sj_E fun _ => ?_
  refine sj_b (v_C8_add y1 rfl) fun v1 => ?_
  refine sj_E0 (fun _ => rfl) ?_
  refine sj_b (v_C8_add 8 rfl) fun v2 => ?_
  exact sj_re (eLit 1)
def G7_readsChange_106 (x1 : Int) : JM Int :=
  ig (R32 x1) <|
  if x1 = 43 then (ib (jG 4 0) fun v1 =>
  (G7_readsChange_127 x1 v1 11)) else ((G7_readsChange_127 x1 (-1) 11))
theorem v_C7_readsChange_106  {n_x1 : Int32} {x1 : Int} (e_x1 : n_x1 = iI x1) : Sj iI (C7_readsChange_106  n_x1) (G7_readsChange_106  x1) := by
  subst e_x1
  unfold C7_readsChange_106 G7_readsChange_106
  refine sj_ig fun h1 => ?_
  refine sj_ite (cEq rfl (eLit 43) ⟨h1, (by decide)⟩) ?_ ?_
  · refine sj_b sj_G fun v1 => ?_
    exact (v_C7_readsChange_127 rfl rfl 11)
  · exact (v_C7_readsChange_127 rfl (eLn 1) 11)
def G7_readsChange_30 (y0 : Int) : JM Int :=
  ib (G7_takes 1) fun v1 =>
  ig (R32 v1) <|
  if v1 = 0 then (jret 0) else (ib (jG 4 0) fun v2 =>
  ib (G8_add 9 v2) fun v3 =>
  ib (G7_takes 2) fun v4 =>
  ig (R32 v4) <|
  if v4 = 0 then (jret 0) else (ib (jG 4 0) fun v5 =>
  ib (G8_add 10 v5) fun v6 =>
  ig (R32 y0) <|
  if y0 = 43 then (ib (G7_takes 43) fun v7 =>
  ig (R32 v7) <|
  if v7 = 0 then (jret 0) else (ib (G7_takes 2) fun v8 =>
  ig (R32 v8) <|
  if v8 = 0 then (jret 0) else ((G7_readsChange_106 y0)))) else ((G7_readsChange_106 y0))))
theorem v_C7_readsChange_30  {n_y0 : Int32} {y0 : Int} (e_y0 : n_y0 = iI y0) : Sj iI (C7_readsChange_30  n_y0) (G7_readsChange_30  y0) := by
  subst e_y0
  unfold C7_readsChange_30 G7_readsChange_30
  refine sj_b (v_C7_takes (eLit 1)) fun v1 => ?_
  refine sj_ig fun h1 => ?_
  refine sj_ite (cEq rfl (eLit 0) ⟨h1, (by decide)⟩) ?_ ?_
  · exact sj_re (eLit 0)
  · refine sj_b sj_G fun v2 => ?_
    refine sj_E0 (fun _ => rfl) ?_
    refine sj_b (v_C8_add 9 rfl) fun v3 => ?_
    refine sj_b (v_C7_takes (eLit 2)) fun v4 => ?_
    refine sj_ig fun h2 => ?_
    refine sj_ite (cEq rfl (eLit 0) ⟨h2, (by decide)⟩) ?_ ?_
    · exact sj_re (eLit 0)
    · refine sj_b sj_G fun v5 => ?_
      refine sj_E0 (fun _ => rfl) ?_
      refine sj_b (v_C8_add 10 rfl) fun v6 => ?_
      refine sj_ig fun h3 => ?_
      refine sj_ite (cEq rfl (eLit 43) ⟨h3, (by decide)⟩) ?_ ?_
      · refine sj_b (v_C7_takes (eLit 43)) fun v7 => ?_
        refine sj_ig fun h4 => ?_
        refine sj_ite (cEq rfl (eLit 0) ⟨h4, (by decide)⟩) ?_ ?_
        · exact sj_re (eLit 0)
        · refine sj_b (v_C7_takes (eLit 2)) fun v8 => ?_
          refine sj_ig fun h5 => ?_
          refine sj_ite (cEq rfl (eLit 0) ⟨h5, (by decide)⟩) ?_ ?_
          · exact sj_re (eLit 0)
          · exact (v_C7_readsChange_106 rfl)
      · exact (v_C7_readsChange_106 rfl)
def G7_readsChange : JM Int :=
  ib (G7_skips 45) fun v1 =>
  ig (R32 v1) <|
  if v1 = 0 then (ib (G7_skips 61) fun v2 =>
  ig (R32 v2) <|
  if v2 = 0 then ((G7_readsChange_30 43)) else ((G7_readsChange_30 61))) else ((G7_readsChange_30 45))
theorem v_C7_readsChange  : Sj iI (C7_readsChange  ) (G7_readsChange  ) := by
  unfold C7_readsChange G7_readsChange
  refine sj_b (v_C7_skips (eLit 45)) fun v1 => ?_
  refine sj_ig fun h1 => ?_
  refine sj_ite (cEq rfl (eLit 0) ⟨h1, (by decide)⟩) ?_ ?_
  · refine sj_b (v_C7_skips (eLit 61)) fun v2 => ?_
    refine sj_ig fun h2 => ?_
    refine sj_ite (cEq rfl (eLit 0) ⟨h2, (by decide)⟩) ?_ ?_
    · exact (v_C7_readsChange_30 (eLit 43))
    · exact (v_C7_readsChange_30 (eLit 61))
  · exact (v_C7_readsChange_30 (eLit 45))
def G7_readsChangeList_2_st (k2 : Int → JM Int) (x1 : Int) : JM Int :=
  ig (R32 x1) <|
  if 121 ≤ x1 then (jret 0) else (ib G7_readsChange fun v1 =>
  ig (R32 v1) <|
  if v1 = 0 then (jret 0) else (ib (G7_skips 44) fun v2 =>
  ig (R32 v2) <|
  if v2 = 0 then (jret 1) else ((k2 (x1 + 1)))))
theorem v_C7_readsChangeList_2_st {n_k2 : Int32 → CM Int32} {k2 : Int → JM Int} (hk2 : ∀ {n0 : Int32} {z0 : Int} (_ : n0 = iI z0), Sj iI (n_k2 n0) (k2 z0)) {n_x1 : Int32} {x1 : Int} (e_x1 : n_x1 = iI x1) : Sj iI (C7_readsChangeList_2_st n_k2 n_x1) (G7_readsChangeList_2_st k2 x1) := by
  subst e_x1
  unfold C7_readsChangeList_2_st G7_readsChangeList_2_st
  refine sj_ig fun h1 => ?_
  refine sj_ite (cLe (eLit 121) rfl ⟨(by decide), h1⟩) ?_ ?_
  · exact sj_re (eLit 0)
  · refine sj_b v_C7_readsChange fun v1 => ?_
    refine sj_ig fun h2 => ?_
    refine sj_ite (cEq rfl (eLit 0) ⟨h2, (by decide)⟩) ?_ ?_
    · exact sj_re (eLit 0)
    · refine sj_b (v_C7_skips (eLit 44)) fun v2 => ?_
      refine sj_ig fun h3 => ?_
      refine sj_ite (cEq rfl (eLit 0) ⟨h3, (by decide)⟩) ?_ ?_
      · exact sj_re (eLit 1)
      · exact (hk2 (eAdd rfl (eLit 1)))
def G7_readsChangeList_2 : Nat → Int → JM Int
  | 0 => fun _ => nof
  | n + 1 => fun x1 => G7_readsChangeList_2_st  (G7_readsChangeList_2  n) x1
theorem v_C7_readsChangeList_2  : ∀ (n : Nat) {n_x1 : Int32} {x1 : Int} (e_x1 : n_x1 = iI x1), Sj iI (C7_readsChangeList_2  n n_x1) (G7_readsChangeList_2  n x1) := by
  intro n
  induction n with
  | zero => intro n_x1 x1 e_x1; exact sj_nf
  | succ n ih => intro n_x1 x1 e_x1; exact v_C7_readsChangeList_2_st  (ih) e_x1
def G7_readsChangeList : JM Int :=
  (G7_readsChangeList_2 LFU 0)
theorem v_C7_readsChangeList  : Sj iI (C7_readsChangeList  ) (G7_readsChangeList  ) := by
  unfold C7_readsChangeList G7_readsChangeList
  exact (v_C7_readsChangeList_2 LFU (eLit 0))
def G5_amount : JM Int :=
  ib (jG 1 9) fun v1 =>
  jret v1
theorem v_C5_amount  : Sj iI (C5_amount  ) (G5_amount  ) := by
  unfold C5_amount G5_amount
  refine sj_b sj_G fun v1 => ?_
  exact sj_re rfl
def G7_readsGroup_159 : JM Int :=
  ib G5_amount fun v1 =>
  ib (G8_add 7 v1) fun v2 =>
  jret 1
theorem v_C7_readsGroup_159  : Sj iI (C7_readsGroup_159  ) (G7_readsGroup_159  ) := by
  unfold C7_readsGroup_159 G7_readsGroup_159
  refine sj_b v_C5_amount fun v1 => ?_
  refine sj_E0 (fun _ => rfl) ?_
  refine sj_b (v_C8_add 7 rfl) fun v2 => ?_
  exact sj_re (eLit 1)
def G7_readsGroup_117 : JM Int :=
  ib (jG 4 0) fun v1 =>
  ib (G8_add 6 v1) fun v2 =>
  ib (G7_skips 40) fun v3 =>
  ig (R32 v3) <|
  if v3 = 0 then (G7_readsGroup_159) else (ib G7_readsChangeList fun v4 =>
  ig (R32 v4) <|
  if v4 = 0 then (jret 0) else (ib (G7_takes 41) fun v5 =>
  ig (R32 v5) <|
  if v5 = 0 then (jret 0) else (G7_readsGroup_159)))
theorem v_C7_readsGroup_117  : Sj iI (C7_readsGroup_117  ) (G7_readsGroup_117  ) := by
  unfold C7_readsGroup_117 G7_readsGroup_117
  refine sj_b sj_G fun v1 => ?_
  refine sj_E0 (fun _ => rfl) ?_
  refine sj_b (v_C8_add 6 rfl) fun v2 => ?_
  refine sj_b (v_C7_skips (eLit 40)) fun v3 => ?_
  refine sj_ig fun h1 => ?_
  refine sj_ite (cEq rfl (eLit 0) ⟨h1, (by decide)⟩) ?_ ?_
  · exact v_C7_readsGroup_159
  · refine sj_b v_C7_readsChangeList fun v4 => ?_
    refine sj_ig fun h2 => ?_
    refine sj_ite (cEq rfl (eLit 0) ⟨h2, (by decide)⟩) ?_ ?_
    · exact sj_re (eLit 0)
    · refine sj_b (v_C7_takes (eLit 41)) fun v5 => ?_
      refine sj_ig fun h3 => ?_
      refine sj_ite (cEq rfl (eLit 0) ⟨h3, (by decide)⟩) ?_ ?_
      · exact sj_re (eLit 0)
      · exact v_C7_readsGroup_159
def G7_readsGroup_65 (x1 : Int) (y0 : Int) (y1 : Nat) : JM Int :=
  ib (jE (1, y1)) fun _ =>
  ib (G8_add y1 y0) fun v1 =>
  ib (G7_takes 2) fun v2 =>
  ig (R32 v2) <|
  if v2 = 0 then (jret 0) else (ib (jG 4 0) fun v3 =>
  ib (G8_add 5 v3) fun v4 =>
  ig (R32 x1) <|
  if x1 = 0 then (G7_readsGroup_117) else (ib (G7_skips 44) fun v5 =>
  ig (R32 v5) <|
  if v5 = 0 then (G7_readsGroup_117) else (ib (G7_takes 2) fun v6 =>
  ig (R32 v6) <|
  if v6 = 0 then (jret 0) else (G7_readsGroup_117))))
theorem v_C7_readsGroup_65  {n_x1 : Int32} {x1 : Int} (e_x1 : n_x1 = iI x1) {n_y0 : Int32} {y0 : Int} (e_y0 : n_y0 = iI y0) (y1 : Nat) : Sj iI (C7_readsGroup_65  n_x1 n_y0 y1) (G7_readsGroup_65  x1 y0 y1) := by
  subst e_x1
  subst e_y0
  unfold C7_readsGroup_65 G7_readsGroup_65
  refine sj_b sj_E fun _ => ?_
  refine sj_b (v_C8_add y1 rfl) fun v1 => ?_
  refine sj_b (v_C7_takes (eLit 2)) fun v2 => ?_
  refine sj_ig fun h1 => ?_
  refine sj_ite (cEq rfl (eLit 0) ⟨h1, (by decide)⟩) ?_ ?_
  · exact sj_re (eLit 0)
  · refine sj_b sj_G fun v3 => ?_
    refine sj_E0 (fun _ => rfl) ?_
    refine sj_b (v_C8_add 5 rfl) fun v4 => ?_
    refine sj_ig fun h2 => ?_
    refine sj_ite (cEq rfl (eLit 0) ⟨h2, (by decide)⟩) ?_ ?_
    · exact v_C7_readsGroup_117
    · refine sj_b (v_C7_skips (eLit 44)) fun v5 => ?_
      refine sj_ig fun h3 => ?_
      refine sj_ite (cEq rfl (eLit 0) ⟨h3, (by decide)⟩) ?_ ?_
      · exact v_C7_readsGroup_117
      · refine sj_b (v_C7_takes (eLit 2)) fun v6 => ?_
        refine sj_ig fun h4 => ?_
        refine sj_ite (cEq rfl (eLit 0) ⟨h4, (by decide)⟩) ?_ ?_
        · exact sj_re (eLit 0)
        · exact v_C7_readsGroup_117
def G7_readsGroup_46 (x1 : Int) : JM Int :=
  ig (R32 x1) <|
  if x1 = 0 then ((G7_readsGroup_65 x1 (-1) 4)) else (ib (jG 4 0) fun v1 =>
  (G7_readsGroup_65 x1 v1 4))
theorem v_C7_readsGroup_46  {n_x1 : Int32} {x1 : Int} (e_x1 : n_x1 = iI x1) : Sj iI (C7_readsGroup_46  n_x1) (G7_readsGroup_46  x1) := by
  subst e_x1
  unfold C7_readsGroup_46 G7_readsGroup_46
  refine sj_ig fun h1 => ?_
  refine sj_ite (cEq rfl (eLit 0) ⟨h1, (by decide)⟩) ?_ ?_
  · exact (v_C7_readsGroup_65 rfl (eLn 1) 4)
  · refine sj_b sj_G fun v1 => ?_
    exact (v_C7_readsGroup_65 rfl rfl 4)
def G7_readsGroup : JM Int :=
  ib (G7_takes 1) fun v1 =>
  ig (R32 v1) <|
  if v1 = 0 then (jret 0) else (ib (jG 4 0) fun v2 =>
  ib (G8_add 3 v2) fun v3 =>
  ib (G7_skips 45) fun v4 =>
  ig (R32 v4) <|
  if v4 = 0 then ((G7_readsGroup_46 v4)) else (ib (G7_takes 1) fun v5 =>
  ig (R32 v5) <|
  if v5 = 0 then (jret 0) else ((G7_readsGroup_46 v4))))
theorem v_C7_readsGroup  : Sj iI (C7_readsGroup  ) (G7_readsGroup  ) := by
  unfold C7_readsGroup G7_readsGroup
  refine sj_b (v_C7_takes (eLit 1)) fun v1 => ?_
  refine sj_ig fun h1 => ?_
  refine sj_ite (cEq rfl (eLit 0) ⟨h1, (by decide)⟩) ?_ ?_
  · exact sj_re (eLit 0)
  · refine sj_b sj_G fun v2 => ?_
    refine sj_E0 (fun _ => rfl) ?_
    refine sj_b (v_C8_add 3 rfl) fun v3 => ?_
    refine sj_b (v_C7_skips (eLit 45)) fun v4 => ?_
    refine sj_ig fun h2 => ?_
    refine sj_ite (cEq rfl (eLit 0) ⟨h2, (by decide)⟩) ?_ ?_
    · exact (v_C7_readsGroup_46 rfl)
    · refine sj_b (v_C7_takes (eLit 1)) fun v5 => ?_
      refine sj_ig fun h3 => ?_
      refine sj_ite (cEq rfl (eLit 0) ⟨h3, (by decide)⟩) ?_ ?_
      · exact sj_re (eLit 0)
      · exact (v_C7_readsGroup_46 rfl)
def G7_readsFormula_6_st (k6 : Int → JM Int) (x1 : Int) : JM Int :=
  ig (R32 x1) <|
  if 121 ≤ x1 then (jret 0) else (ib G7_readsGroup fun v1 =>
  ig (R32 v1) <|
  if v1 = 0 then (jret 0) else (ib (G7_skips 0) fun v2 =>
  ig (R32 v2) <|
  if v2 = 0 then ((k6 (x1 + 1))) else (jret 1)))
theorem v_C7_readsFormula_6_st {n_k6 : Int32 → CM Int32} {k6 : Int → JM Int} (hk6 : ∀ {n0 : Int32} {z0 : Int} (_ : n0 = iI z0), Sj iI (n_k6 n0) (k6 z0)) {n_x1 : Int32} {x1 : Int} (e_x1 : n_x1 = iI x1) : Sj iI (C7_readsFormula_6_st n_k6 n_x1) (G7_readsFormula_6_st k6 x1) := by
  subst e_x1
  unfold C7_readsFormula_6_st G7_readsFormula_6_st
  refine sj_ig fun h1 => ?_
  refine sj_ite (cLe (eLit 121) rfl ⟨(by decide), h1⟩) ?_ ?_
  · exact sj_re (eLit 0)
  · refine sj_b v_C7_readsGroup fun v1 => ?_
    refine sj_ig fun h2 => ?_
    refine sj_ite (cEq rfl (eLit 0) ⟨h2, (by decide)⟩) ?_ ?_
    · exact sj_re (eLit 0)
    · refine sj_b (v_C7_skips (eLit 0)) fun v2 => ?_
      refine sj_ig fun h3 => ?_
      refine sj_ite (cEq rfl (eLit 0) ⟨h3, (by decide)⟩) ?_ ?_
      · exact (hk6 (eAdd rfl (eLit 1)))
      · exact sj_re (eLit 1)
def G7_readsFormula_6 : Nat → Int → JM Int
  | 0 => fun _ => nof
  | n + 1 => fun x1 => G7_readsFormula_6_st  (G7_readsFormula_6  n) x1
theorem v_C7_readsFormula_6  : ∀ (n : Nat) {n_x1 : Int32} {x1 : Int} (e_x1 : n_x1 = iI x1), Sj iI (C7_readsFormula_6  n n_x1) (G7_readsFormula_6  n x1) := by
  intro n
  induction n with
  | zero => intro n_x1 x1 e_x1; exact sj_nf
  | succ n ih => intro n_x1 x1 e_x1; exact v_C7_readsFormula_6_st  (ih) e_x1
def G7_readsFormula : JM Int :=
  ib G7_begin fun _ =>
  (G7_readsFormula_6 LFU 0)
theorem v_C7_readsFormula  : Sj iI (C7_readsFormula  ) (G7_readsFormula  ) := by
  unfold C7_readsFormula G7_readsFormula
  refine sj_b v_C7_begin fun _ => ?_
  exact (v_C7_readsFormula_6 LFU (eLit 0))
def G6_clear (this : Nat) : JM Unit :=
  ib (jE (2, this)) fun _ =>
  ib (jFi 4 this false 0) fun _ =>
  ib (jE (2, this)) fun _ =>
  ib (jFi 5 this true 0) fun _ =>
  ib (jE (2, this)) fun _ =>
  ib (jFi 6 this true 0) fun _ =>
  ib (jP 6 this 0) fun _ =>
  ib (jP 7 this (-1)) fun _ =>
  jret ()
theorem v_C6_clear  (this : Nat) : Sj (fun x : Unit => x) (C6_clear  this) (G6_clear  this) := by
  unfold C6_clear G6_clear
  refine sj_b sj_E fun _ => ?_
  refine sj_b (sj_Fi (eLit 0)) fun _ => ?_
  refine sj_b sj_E fun _ => ?_
  refine sj_b (sj_Fi (eLit 0)) fun _ => ?_
  refine sj_b sj_E fun _ => ?_
  refine sj_b (sj_Fi (eLit 0)) fun _ => ?_
  refine sj_b (sj_P (eLit 0)) fun _ => ?_
  refine sj_b (sj_P (eLn 1)) fun _ => ?_
  exact sj_rn
def G6_sizeOf (this : Nat) (a1 : Int) : JM Int :=
  ig (R32 a1) <|
  if a1 < 0 then (jret 0) else (ib (jE (2, this)) fun _ =>
  ib (jN 4 this) fun v1 =>
  ig (R32 v1) <|
  if a1 < v1 then (ib (jE (2, this)) fun _ =>
  ib (jA 4 this a1) fun v2 =>
  jret v2) else (jret 0))
theorem v_C6_sizeOf  (this : Nat) {n_a1 : Int32} {a1 : Int} (e_a1 : n_a1 = iI a1) : Sj iI (C6_sizeOf  this n_a1) (G6_sizeOf  this a1) := by
  subst e_a1
  unfold C6_sizeOf G6_sizeOf
  refine sj_ig fun h1 => ?_
  refine sj_ite (cLt rfl (eLit 0) ⟨h1, (by decide)⟩) ?_ ?_
  · exact sj_re (eLit 0)
  · refine sj_b sj_E fun _ => ?_
    refine sj_b sj_N fun v1 => ?_
    refine sj_ig fun h2 => ?_
    refine sj_ite (cLt rfl rfl ⟨h1, h2⟩) ?_ ?_
    · refine sj_b sj_E fun _ => ?_
      refine sj_b (sj_A rfl) fun v2 => ?_
      exact sj_re rfl
    · exact sj_re (eLit 0)
def G3_isSize (a0 : Int) : JM Int :=
  ig (R32 a0) <|
  if a0 = 1 then (jret 1) else (if a0 < 2 then (jret 0) else (if 12 < a0 then (jret 0) else (ib (jrI a0 2) fun v1 =>
  ig (R32 v1) <|
  if v1 = 0 then (jret 1) else (jret 0))))
theorem v_C3_isSize  {n_a0 : Int32} {a0 : Int} (e_a0 : n_a0 = iI a0) : Sj iI (C3_isSize  n_a0) (G3_isSize  a0) := by
  subst e_a0
  unfold C3_isSize G3_isSize
  refine sj_ig fun h1 => ?_
  refine sj_ite (cEq rfl (eLit 1) ⟨h1, (by decide)⟩) ?_ ?_
  · exact sj_re (eLit 1)
  · refine sj_ite (cLt rfl (eLit 2) ⟨h1, (by decide)⟩) ?_ ?_
    · exact sj_re (eLit 0)
    · refine sj_ite (cLt (eLit 12) rfl ⟨(by decide), h1⟩) ?_ ?_
      · exact sj_re (eLit 0)
      · refine sj_b (sj_rI rfl (eLit 2)) fun v1 => ?_
        refine sj_ig fun h2 => ?_
        refine sj_ite (cEq rfl (eLit 0) ⟨h2, (by decide)⟩) ?_ ?_
        · exact sj_re (eLit 1)
        · exact sj_re (eLit 0)
def G6_addGathering (this : Nat) (a1 : Int) (a2 : Int) : JM Unit :=
  ib (jG 6 this) fun v1 =>
  ib (jE (2, this)) fun _ =>
  ib (jN 3 this) fun v2 =>
  ig (R32 v2) <|
  ig (R32 v1) <|
  if v2 ≤ v1 then (jret ()) else (ig (R32 a1) <|
  if a1 < 0 then (jret ()) else (ib (jE (2, this)) fun _ =>
  ib (jN 4 this) fun v3 =>
  ig (R32 v3) <|
  if a1 < v3 then (ib (jE (2, this)) fun _ =>
  ib (jG 6 this) fun v4 =>
  ib (jP 6 this (v4 + 1)) fun _ =>
  ib (jS 3 this v4 a1) fun _ =>
  ib (jE (2, this)) fun _ =>
  ib (jS 4 this a1 a2) fun _ =>
  if a1 = 70 then (jret ()) else (ib (jP 7 this a1) fun _ =>
  jret ())) else (jret ())))
theorem v_C6_addGathering  (this : Nat) {n_a1 : Int32} {a1 : Int} (e_a1 : n_a1 = iI a1) {n_a2 : Int32} {a2 : Int} (e_a2 : n_a2 = iI a2) : Sj (fun x : Unit => x) (C6_addGathering  this n_a1 n_a2) (G6_addGathering  this a1 a2) := by
  subst e_a1
  subst e_a2
  unfold C6_addGathering G6_addGathering
  refine sj_b sj_G fun v1 => ?_
  refine sj_b sj_E fun _ => ?_
  refine sj_b sj_N fun v2 => ?_
  refine sj_ig fun h1 => ?_
  refine sj_ig fun h2 => ?_
  refine sj_ite (cLe rfl rfl ⟨h1, h2⟩) ?_ ?_
  · exact sj_rn
  · refine sj_ig fun h3 => ?_
    refine sj_ite (cLt rfl (eLit 0) ⟨h3, (by decide)⟩) ?_ ?_
    · exact sj_rn
    · refine sj_b sj_E fun _ => ?_
      refine sj_b sj_N fun v3 => ?_
      refine sj_ig fun h4 => ?_
      refine sj_ite (cLt rfl rfl ⟨h3, h4⟩) ?_ ?_
      · refine sj_b sj_E fun _ => ?_
        refine sj_b sj_G fun v4 => ?_
        refine sj_b (sj_P (eAdd rfl (eLit 1))) fun _ => ?_
        refine sj_b (sj_S rfl rfl) fun _ => ?_
        refine sj_b sj_E fun _ => ?_
        refine sj_b (sj_S rfl rfl) fun _ => ?_
        refine sj_ite (cEq rfl (eLit 70) ⟨h3, (by decide)⟩) ?_ ?_
        · exact sj_rn
        · refine sj_b (sj_P rfl) fun _ => ?_
          exact sj_rn
      · exact sj_rn
def G6_addGroup_27 (k3 : Nat → Int → Int → Int → Int → Int → JM Unit) (this : Nat) (x1 : Int) (x2 : Int) (x3 : Int) (x4 : Int) (x5 : Int) (y0 : Int) (y1 : Int) : JM Unit :=
  ib (jE (2, this)) fun _ =>
  ib (G6_addGathering this y1 y0) fun _ =>
  (k3 this x1 x2 x3 x4 (x5 + 1))
theorem v_C6_addGroup_27 {n_k3 : Nat → Int32 → Int32 → Int32 → Int32 → Int32 → CM Unit} {k3 : Nat → Int → Int → Int → Int → Int → JM Unit} (hk3 : ∀ (z0 : Nat) {n1 : Int32} {z1 : Int} (_ : n1 = iI z1) {n2 : Int32} {z2 : Int} (_ : n2 = iI z2) {n3 : Int32} {z3 : Int} (_ : n3 = iI z3) {n4 : Int32} {z4 : Int} (_ : n4 = iI z4) {n5 : Int32} {z5 : Int} (_ : n5 = iI z5), Sj (fun x : Unit => x) (n_k3 z0 n1 n2 n3 n4 n5) (k3 z0 z1 z2 z3 z4 z5)) (this : Nat) {n_x1 : Int32} {x1 : Int} (e_x1 : n_x1 = iI x1) {n_x2 : Int32} {x2 : Int} (e_x2 : n_x2 = iI x2) {n_x3 : Int32} {x3 : Int} (e_x3 : n_x3 = iI x3) {n_x4 : Int32} {x4 : Int} (e_x4 : n_x4 = iI x4) {n_x5 : Int32} {x5 : Int} (e_x5 : n_x5 = iI x5) {n_y0 : Int32} {y0 : Int} (e_y0 : n_y0 = iI y0) {n_y1 : Int32} {y1 : Int} (e_y1 : n_y1 = iI y1) : Sj (fun x : Unit => x) (C6_addGroup_27 n_k3 this n_x1 n_x2 n_x3 n_x4 n_x5 n_y0 n_y1) (G6_addGroup_27 k3 this x1 x2 x3 x4 x5 y0 y1) := by
  subst e_x1
  subst e_x2
  subst e_x3
  subst e_x4
  subst e_x5
  subst e_y0
  subst e_y1
  unfold C6_addGroup_27 G6_addGroup_27
  refine sj_b sj_E fun _ => ?_
  refine sj_b (v_C6_addGathering this rfl rfl) fun _ => ?_
  exact (hk3 this rfl rfl rfl rfl (eAdd rfl (eLit 1)))
def G6_addGroup_3_st (k3 : Nat → Int → Int → Int → Int → Int → JM Unit) (this : Nat) (x1 : Int) (x2 : Int) (x3 : Int) (x4 : Int) (x5 : Int) : JM Unit :=
  ig (R32 x2) <|
  ig (R32 x5) <|
  if x2 < x5 then (jret ()) else (ib (jrI (x5 - x1) 2) fun v1 =>
  ig (R32 v1) <|
  if v1 = 0 then ((G6_addGroup_27 k3 this x1 x2 x3 x4 x5 x3 x5)) else ((G6_addGroup_27 k3 this x1 x2 x3 x4 x5 x4 x5)))
theorem v_C6_addGroup_3_st {n_k3 : Nat → Int32 → Int32 → Int32 → Int32 → Int32 → CM Unit} {k3 : Nat → Int → Int → Int → Int → Int → JM Unit} (hk3 : ∀ (z0 : Nat) {n1 : Int32} {z1 : Int} (_ : n1 = iI z1) {n2 : Int32} {z2 : Int} (_ : n2 = iI z2) {n3 : Int32} {z3 : Int} (_ : n3 = iI z3) {n4 : Int32} {z4 : Int} (_ : n4 = iI z4) {n5 : Int32} {z5 : Int} (_ : n5 = iI z5), Sj (fun x : Unit => x) (n_k3 z0 n1 n2 n3 n4 n5) (k3 z0 z1 z2 z3 z4 z5)) (this : Nat) {n_x1 : Int32} {x1 : Int} (e_x1 : n_x1 = iI x1) {n_x2 : Int32} {x2 : Int} (e_x2 : n_x2 = iI x2) {n_x3 : Int32} {x3 : Int} (e_x3 : n_x3 = iI x3) {n_x4 : Int32} {x4 : Int} (e_x4 : n_x4 = iI x4) {n_x5 : Int32} {x5 : Int} (e_x5 : n_x5 = iI x5) : Sj (fun x : Unit => x) (C6_addGroup_3_st n_k3 this n_x1 n_x2 n_x3 n_x4 n_x5) (G6_addGroup_3_st k3 this x1 x2 x3 x4 x5) := by
  subst e_x1
  subst e_x2
  subst e_x3
  subst e_x4
  subst e_x5
  unfold C6_addGroup_3_st G6_addGroup_3_st
  refine sj_ig fun h1 => ?_
  refine sj_ig fun h2 => ?_
  refine sj_ite (cLt rfl rfl ⟨h1, h2⟩) ?_ ?_
  · exact sj_rn
  · refine sj_b (sj_rI (eSub rfl rfl) (eLit 2)) fun v1 => ?_
    refine sj_ig fun h3 => ?_
    refine sj_ite (cEq rfl (eLit 0) ⟨h3, (by decide)⟩) ?_ ?_
    · exact (v_C6_addGroup_27 hk3 this rfl rfl rfl rfl rfl rfl rfl)
    · exact (v_C6_addGroup_27 hk3 this rfl rfl rfl rfl rfl rfl rfl)
def G6_addGroup_3 : Nat → Nat → Int → Int → Int → Int → Int → JM Unit
  | 0 => fun _ _ _ _ _ _ => nof
  | n + 1 => fun this x1 x2 x3 x4 x5 => G6_addGroup_3_st  (G6_addGroup_3  n) this x1 x2 x3 x4 x5
theorem v_C6_addGroup_3  : ∀ (n : Nat) (this : Nat) {n_x1 : Int32} {x1 : Int} (e_x1 : n_x1 = iI x1) {n_x2 : Int32} {x2 : Int} (e_x2 : n_x2 = iI x2) {n_x3 : Int32} {x3 : Int} (e_x3 : n_x3 = iI x3) {n_x4 : Int32} {x4 : Int} (e_x4 : n_x4 = iI x4) {n_x5 : Int32} {x5 : Int} (e_x5 : n_x5 = iI x5), Sj (fun x : Unit => x) (C6_addGroup_3  n this n_x1 n_x2 n_x3 n_x4 n_x5) (G6_addGroup_3  n this x1 x2 x3 x4 x5) := by
  intro n
  induction n with
  | zero => intro this n_x1 x1 e_x1 n_x2 x2 e_x2 n_x3 x3 e_x3 n_x4 x4 e_x4 n_x5 x5 e_x5; exact sj_nf
  | succ n ih => intro this n_x1 x1 e_x1 n_x2 x2 e_x2 n_x3 x3 e_x3 n_x4 x4 e_x4 n_x5 x5 e_x5; exact v_C6_addGroup_3_st  (ih) this e_x1 e_x2 e_x3 e_x4 e_x5
def G6_addGroup (this : Nat) (a1 : Int) (a2 : Int) (a3 : Int) (a4 : Int) : JM Unit :=
  (G6_addGroup_3 LFU this a1 a2 a3 a4 a1)
theorem v_C6_addGroup  (this : Nat) {n_a1 : Int32} {a1 : Int} (e_a1 : n_a1 = iI a1) {n_a2 : Int32} {a2 : Int} (e_a2 : n_a2 = iI a2) {n_a3 : Int32} {a3 : Int} (e_a3 : n_a3 = iI a3) {n_a4 : Int32} {a4 : Int} (e_a4 : n_a4 = iI a4) : Sj (fun x : Unit => x) (C6_addGroup  this n_a1 n_a2 n_a3 n_a4) (G6_addGroup  this a1 a2 a3 a4) := by
  subst e_a1
  subst e_a2
  subst e_a3
  subst e_a4
  unfold C6_addGroup G6_addGroup
  exact (v_C6_addGroup_3 LFU this rfl rfl rfl rfl rfl)
def G3_ofSigns_3_st (k3 : Int → Int → Int → Int → JM Int) (x2 : Int) (x3 : Int) (x4 : Int) (x5 : Int) : JM Int :=
  ig (R32 x2) <|
  ig (R32 x5) <|
  if x2 ≤ x5 then (jret 1) else (ib (G8_get 9 x5) fun v1 =>
  ig (R32 v1) <|
  ig (R32 x3) <|
  if v1 < x3 then (jret 0) else (ib (G8_get 9 x5) fun v2 =>
  ig (R32 v2) <|
  ig (R32 x4) <|
  if v2 ≤ x4 then ((k3 x2 x3 x4 (x5 + 1))) else (jret 0)))
theorem v_C3_ofSigns_3_st {n_k3 : Int32 → Int32 → Int32 → Int32 → CM Int32} {k3 : Int → Int → Int → Int → JM Int} (hk3 : ∀ {n0 : Int32} {z0 : Int} (_ : n0 = iI z0) {n1 : Int32} {z1 : Int} (_ : n1 = iI z1) {n2 : Int32} {z2 : Int} (_ : n2 = iI z2) {n3 : Int32} {z3 : Int} (_ : n3 = iI z3), Sj iI (n_k3 n0 n1 n2 n3) (k3 z0 z1 z2 z3)) {n_x2 : Int32} {x2 : Int} (e_x2 : n_x2 = iI x2) {n_x3 : Int32} {x3 : Int} (e_x3 : n_x3 = iI x3) {n_x4 : Int32} {x4 : Int} (e_x4 : n_x4 = iI x4) {n_x5 : Int32} {x5 : Int} (e_x5 : n_x5 = iI x5) : Sj iI (C3_ofSigns_3_st n_k3 n_x2 n_x3 n_x4 n_x5) (G3_ofSigns_3_st k3 x2 x3 x4 x5) := by
  subst e_x2
  subst e_x3
  subst e_x4
  subst e_x5
  unfold C3_ofSigns_3_st G3_ofSigns_3_st
  refine sj_ig fun h1 => ?_
  refine sj_ig fun h2 => ?_
  refine sj_ite (cLe rfl rfl ⟨h1, h2⟩) ?_ ?_
  · exact sj_re (eLit 1)
  · refine sj_E0 (fun _ => rfl) ?_
    refine sj_b (v_C8_get 9 rfl) fun v1 => ?_
    refine sj_ig fun h3 => ?_
    refine sj_ig fun h4 => ?_
    refine sj_ite (cLt rfl rfl ⟨h3, h4⟩) ?_ ?_
    · exact sj_re (eLit 0)
    · refine sj_E0 (fun _ => rfl) ?_
      refine sj_b (v_C8_get 9 rfl) fun v2 => ?_
      refine sj_ig fun h5 => ?_
      refine sj_ig fun h6 => ?_
      refine sj_ite (cLe rfl rfl ⟨h5, h6⟩) ?_ ?_
      · exact (hk3 rfl rfl rfl (eAdd rfl (eLit 1)))
      · exact sj_re (eLit 0)
def G3_ofSigns_3 : Nat → Int → Int → Int → Int → JM Int
  | 0 => fun _ _ _ _ => nof
  | n + 1 => fun x2 x3 x4 x5 => G3_ofSigns_3_st  (G3_ofSigns_3  n) x2 x3 x4 x5
theorem v_C3_ofSigns_3  : ∀ (n : Nat) {n_x2 : Int32} {x2 : Int} (e_x2 : n_x2 = iI x2) {n_x3 : Int32} {x3 : Int} (e_x3 : n_x3 = iI x3) {n_x4 : Int32} {x4 : Int} (e_x4 : n_x4 = iI x4) {n_x5 : Int32} {x5 : Int} (e_x5 : n_x5 = iI x5), Sj iI (C3_ofSigns_3  n n_x2 n_x3 n_x4 n_x5) (G3_ofSigns_3  n x2 x3 x4 x5) := by
  intro n
  induction n with
  | zero => intro n_x2 x2 e_x2 n_x3 x3 e_x3 n_x4 x4 e_x4 n_x5 x5 e_x5; exact sj_nf
  | succ n ih => intro n_x2 x2 e_x2 n_x3 x3 e_x3 n_x4 x4 e_x4 n_x5 x5 e_x5; exact v_C3_ofSigns_3_st  (ih) e_x2 e_x3 e_x4 e_x5
def G3_ofSigns (a1 : Int) (a2 : Int) (a3 : Int) (a4 : Int) : JM Int :=
  (G3_ofSigns_3 LFU a2 a3 a4 a1)
theorem v_C3_ofSigns  {n_a1 : Int32} {a1 : Int} (e_a1 : n_a1 = iI a1) {n_a2 : Int32} {a2 : Int} (e_a2 : n_a2 = iI a2) {n_a3 : Int32} {a3 : Int} (e_a3 : n_a3 = iI a3) {n_a4 : Int32} {a4 : Int} (e_a4 : n_a4 = iI a4) : Sj iI (C3_ofSigns  n_a1 n_a2 n_a3 n_a4) (G3_ofSigns  a1 a2 a3 a4) := by
  subst e_a1
  subst e_a2
  subst e_a3
  subst e_a4
  unfold C3_ofSigns G3_ofSigns
  exact (v_C3_ofSigns_3 LFU rfl rfl rfl rfl)
def G6_slotOf (this : Nat) (a1 : Int) (a2 : Int) : JM Int :=
  ig (R32 a2) <|
  if a2 < 1 then (jret (-1)) else (ib (jE (2, this)) fun _ =>
  ib (G6_sizeOf this a1) fun v1 =>
  ig (R32 v1) <|
  if a2 ≤ v1 then (jret (((a1 * 12) + a2) - 1)) else (jret (-1)))
theorem v_C6_slotOf  (this : Nat) {n_a1 : Int32} {a1 : Int} (e_a1 : n_a1 = iI a1) {n_a2 : Int32} {a2 : Int} (e_a2 : n_a2 = iI a2) : Sj iI (C6_slotOf  this n_a1 n_a2) (G6_slotOf  this a1 a2) := by
  subst e_a1
  subst e_a2
  unfold C6_slotOf G6_slotOf
  refine sj_ig fun h1 => ?_
  refine sj_ite (cLt rfl (eLit 1) ⟨h1, (by decide)⟩) ?_ ?_
  · exact sj_re (eLn 1)
  · refine sj_b sj_E fun _ => ?_
    refine sj_b (v_C6_sizeOf this rfl) fun v1 => ?_
    refine sj_ig fun h2 => ?_
    refine sj_ite (cLe rfl rfl ⟨h1, h2⟩) ?_ ?_
    · exact sj_re (eSub (eAdd (eMul rfl (eLit 12)) rfl) (eLit 1))
    · exact sj_re (eLn 1)
def G6_takesChange_30 (x1 : Int) (x2 : Int) (x3 : Int) (y0 : Nat × Nat) : JM Int :=
  ib (jAb y0.1 y0.2 x1) fun v1 =>
  ig (R32 v1) <|
  if v1 = 0 then (ig (R32 x2) <|
  if x2 = 43 then (ib (jSb y0.1 y0.2 x1 (iB8 x3)) fun _ =>
  jret 1) else (ib (jSb y0.1 y0.2 x1 (iB8 x2)) fun _ =>
  jret 1)) else (jret 0)
theorem v_C6_takesChange_30  {n_x1 : Int32} {x1 : Int} (e_x1 : n_x1 = iI x1) {n_x2 : Int32} {x2 : Int} (e_x2 : n_x2 = iI x2) {n_x3 : Int32} {x3 : Int} (e_x3 : n_x3 = iI x3) (y0 : Nat × Nat) : Sj iI (C6_takesChange_30  n_x1 n_x2 n_x3 y0) (G6_takesChange_30  x1 x2 x3 y0) := by
  subst e_x1
  subst e_x2
  subst e_x3
  unfold C6_takesChange_30 G6_takesChange_30
  refine sj_b (sj_Ab rfl) fun v1 => ?_
  refine sj_ig fun h1 => ?_
  refine sj_ite (cEq rfl (eLit 0) ⟨h1, (by decide)⟩) ?_ ?_
  · refine sj_ig fun h2 => ?_
    refine sj_ite (cEq rfl (eLit 43) ⟨h2, (by decide)⟩) ?_ ?_
    · refine sj_b (sj_Sb rfl (eB8 rfl)) fun _ => ?_
      exact sj_re (eLit 1)
    · refine sj_b (sj_Sb rfl (eB8 rfl)) fun _ => ?_
      exact sj_re (eLit 1)
  · exact sj_re (eLit 0)
def G6_takesChange (this : Nat) (a1 : Int) (a2 : Int) (a3 : Int) : JM Int :=
  ig (R32 a1) <|
  if a1 < 0 then (jret 0) else (if a1 < 852 then (ig (R32 a2) <|
  if a2 = 43 then (ib (jE (2, this)) fun _ =>
  (G6_takesChange_30 a1 a2 a3 (6, this))) else (ib (jE (2, this)) fun _ =>
  (G6_takesChange_30 a1 a2 a3 (5, this)))) else (jret 0))
theorem v_C6_takesChange  (this : Nat) {n_a1 : Int32} {a1 : Int} (e_a1 : n_a1 = iI a1) {n_a2 : Int32} {a2 : Int} (e_a2 : n_a2 = iI a2) {n_a3 : Int32} {a3 : Int} (e_a3 : n_a3 = iI a3) : Sj iI (C6_takesChange  this n_a1 n_a2 n_a3) (G6_takesChange  this a1 a2 a3) := by
  subst e_a1
  subst e_a2
  subst e_a3
  unfold C6_takesChange G6_takesChange
  refine sj_ig fun h1 => ?_
  refine sj_ite (cLt rfl (eLit 0) ⟨h1, (by decide)⟩) ?_ ?_
  · exact sj_re (eLit 0)
  · refine sj_ite (cLt rfl (eLit 852) ⟨h1, (by decide)⟩) ?_ ?_
    · refine sj_ig fun h2 => ?_
      refine sj_ite (cEq rfl (eLit 43) ⟨h2, (by decide)⟩) ?_ ?_
      · refine sj_b sj_E fun _ => ?_
        exact (v_C6_takesChange_30 rfl rfl rfl (6, this))
      · refine sj_b sj_E fun _ => ?_
        exact (v_C6_takesChange_30 rfl rfl rfl (5, this))
    · exact sj_re (eLit 0)
def G3_ofChanges_91 (k46 : Int → Int → Nat → Int → JM Int) (x1 : Int) (x2 : Int) (x3 : Nat) (x4 : Int) : JM Int :=
  (k46 x1 x2 x3 (x4 + 1))
theorem v_C3_ofChanges_91 {n_k46 : Int32 → Int32 → Nat → Int32 → CM Int32} {k46 : Int → Int → Nat → Int → JM Int} (hk46 : ∀ {n0 : Int32} {z0 : Int} (_ : n0 = iI z0) {n1 : Int32} {z1 : Int} (_ : n1 = iI z1) (z2 : Nat) {n3 : Int32} {z3 : Int} (_ : n3 = iI z3), Sj iI (n_k46 n0 n1 z2 n3) (k46 z0 z1 z2 z3)) {n_x1 : Int32} {x1 : Int} (e_x1 : n_x1 = iI x1) {n_x2 : Int32} {x2 : Int} (e_x2 : n_x2 = iI x2) (x3 : Nat) {n_x4 : Int32} {x4 : Int} (e_x4 : n_x4 = iI x4) : Sj iI (C3_ofChanges_91 n_k46 n_x1 n_x2 x3 n_x4) (G3_ofChanges_91 k46 x1 x2 x3 x4) := by
  subst e_x1
  subst e_x2
  subst e_x4
  unfold C3_ofChanges_91 G3_ofChanges_91
  exact (hk46 rfl rfl x3 (eAdd rfl (eLit 1)))
def G3_ofChanges_100_st (k100 : Int → Nat → Int → JM Int) (x2 : Int) (x3 : Nat) (x4 : Int) : JM Int :=
  ig (R32 x2) <|
  ig (R32 x4) <|
  if x2 ≤ x4 then (jret 0) else (ib (G8_get 9 x4) fun v1 =>
  ib (G8_get 10 x4) fun v2 =>
  ib (jE (2, x3)) fun _ =>
  ib (G6_slotOf x3 v1 v2) fun v3 =>
  ib (G8_get 8 x4) fun v4 =>
  ib (G8_get 11 x4) fun v5 =>
  ib (jE (2, x3)) fun _ =>
  ib (G6_takesChange x3 v3 v4 v5) fun v6 =>
  ig (R32 v6) <|
  if v6 = 0 then (jret 6) else ((k100 x2 x3 (x4 + 1))))
theorem v_C3_ofChanges_100_st {n_k100 : Int32 → Nat → Int32 → CM Int32} {k100 : Int → Nat → Int → JM Int} (hk100 : ∀ {n0 : Int32} {z0 : Int} (_ : n0 = iI z0) (z1 : Nat) {n2 : Int32} {z2 : Int} (_ : n2 = iI z2), Sj iI (n_k100 n0 z1 n2) (k100 z0 z1 z2)) {n_x2 : Int32} {x2 : Int} (e_x2 : n_x2 = iI x2) (x3 : Nat) {n_x4 : Int32} {x4 : Int} (e_x4 : n_x4 = iI x4) : Sj iI (C3_ofChanges_100_st n_k100 n_x2 x3 n_x4) (G3_ofChanges_100_st k100 x2 x3 x4) := by
  subst e_x2
  subst e_x4
  unfold C3_ofChanges_100_st G3_ofChanges_100_st
  refine sj_ig fun h1 => ?_
  refine sj_ig fun h2 => ?_
  refine sj_ite (cLe rfl rfl ⟨h1, h2⟩) ?_ ?_
  · exact sj_re (eLit 0)
  · refine sj_E0 (fun _ => rfl) ?_
    refine sj_b (v_C8_get 9 rfl) fun v1 => ?_
    refine sj_E0 (fun _ => rfl) ?_
    refine sj_b (v_C8_get 10 rfl) fun v2 => ?_
    refine sj_b sj_E fun _ => ?_
    refine sj_b (v_C6_slotOf x3 rfl rfl) fun v3 => ?_
    refine sj_E0 (fun _ => rfl) ?_
    refine sj_b (v_C8_get 8 rfl) fun v4 => ?_
    refine sj_E0 (fun _ => rfl) ?_
    refine sj_b (v_C8_get 11 rfl) fun v5 => ?_
    refine sj_b sj_E fun _ => ?_
    refine sj_b (v_C6_takesChange x3 rfl rfl rfl) fun v6 => ?_
    refine sj_ig fun h3 => ?_
    refine sj_ite (cEq rfl (eLit 0) ⟨h3, (by decide)⟩) ?_ ?_
    · exact sj_re (eLit 6)
    · exact (hk100 rfl x3 (eAdd rfl (eLit 1)))
def G3_ofChanges_100 : Nat → Int → Nat → Int → JM Int
  | 0 => fun _ _ _ => nof
  | n + 1 => fun x2 x3 x4 => G3_ofChanges_100_st  (G3_ofChanges_100  n) x2 x3 x4
theorem v_C3_ofChanges_100  : ∀ (n : Nat) {n_x2 : Int32} {x2 : Int} (e_x2 : n_x2 = iI x2) (x3 : Nat) {n_x4 : Int32} {x4 : Int} (e_x4 : n_x4 = iI x4), Sj iI (C3_ofChanges_100  n n_x2 x3 n_x4) (G3_ofChanges_100  n x2 x3 x4) := by
  intro n
  induction n with
  | zero => intro n_x2 x2 e_x2 x3 n_x4 x4 e_x4; exact sj_nf
  | succ n ih => intro n_x2 x2 e_x2 x3 n_x4 x4 e_x4; exact v_C3_ofChanges_100_st  (ih) e_x2 x3 e_x4
def G3_ofChanges_97 (x1 : Int) (x2 : Int) (x3 : Nat) : JM Int :=
  (G3_ofChanges_100 LFU x2 x3 x1)
theorem v_C3_ofChanges_97  {n_x1 : Int32} {x1 : Int} (e_x1 : n_x1 = iI x1) {n_x2 : Int32} {x2 : Int} (e_x2 : n_x2 = iI x2) (x3 : Nat) : Sj iI (C3_ofChanges_97  n_x1 n_x2 x3) (G3_ofChanges_97  x1 x2 x3) := by
  subst e_x1
  subst e_x2
  unfold C3_ofChanges_97 G3_ofChanges_97
  exact (v_C3_ofChanges_100 LFU rfl x3 rfl)
def G3_ofChanges_46_st (k46 : Int → Int → Nat → Int → JM Int) (x1 : Int) (x2 : Int) (x3 : Nat) (x4 : Int) : JM Int :=
  ig (R32 x2) <|
  ig (R32 x4) <|
  if x2 ≤ x4 then ((G3_ofChanges_97 x1 x2 x3)) else (ib (G8_get 11 x4) fun v1 =>
  ib (G8_get 8 x4) fun v2 =>
  ig (R32 v2) <|
  if v2 = 43 then (ig (R32 v1) <|
  if v1 < 1 then (jret 5) else (if v1 ≤ 4 then ((G3_ofChanges_91 k46 x1 x2 x3 x4)) else (jret 5))) else ((G3_ofChanges_91 k46 x1 x2 x3 x4)))
theorem v_C3_ofChanges_46_st {n_k46 : Int32 → Int32 → Nat → Int32 → CM Int32} {k46 : Int → Int → Nat → Int → JM Int} (hk46 : ∀ {n0 : Int32} {z0 : Int} (_ : n0 = iI z0) {n1 : Int32} {z1 : Int} (_ : n1 = iI z1) (z2 : Nat) {n3 : Int32} {z3 : Int} (_ : n3 = iI z3), Sj iI (n_k46 n0 n1 z2 n3) (k46 z0 z1 z2 z3)) {n_x1 : Int32} {x1 : Int} (e_x1 : n_x1 = iI x1) {n_x2 : Int32} {x2 : Int} (e_x2 : n_x2 = iI x2) (x3 : Nat) {n_x4 : Int32} {x4 : Int} (e_x4 : n_x4 = iI x4) : Sj iI (C3_ofChanges_46_st n_k46 n_x1 n_x2 x3 n_x4) (G3_ofChanges_46_st k46 x1 x2 x3 x4) := by
  subst e_x1
  subst e_x2
  subst e_x4
  unfold C3_ofChanges_46_st G3_ofChanges_46_st
  refine sj_ig fun h1 => ?_
  refine sj_ig fun h2 => ?_
  refine sj_ite (cLe rfl rfl ⟨h1, h2⟩) ?_ ?_
  · exact (v_C3_ofChanges_97 rfl rfl x3)
  · refine sj_E0 (fun _ => rfl) ?_
    refine sj_b (v_C8_get 11 rfl) fun v1 => ?_
    refine sj_E0 (fun _ => rfl) ?_
    refine sj_b (v_C8_get 8 rfl) fun v2 => ?_
    refine sj_ig fun h3 => ?_
    refine sj_ite (cEq rfl (eLit 43) ⟨h3, (by decide)⟩) ?_ ?_
    · refine sj_ig fun h4 => ?_
      refine sj_ite (cLt rfl (eLit 1) ⟨h4, (by decide)⟩) ?_ ?_
      · exact sj_re (eLit 5)
      · refine sj_ite (cLe rfl (eLit 4) ⟨h4, (by decide)⟩) ?_ ?_
        · exact (v_C3_ofChanges_91 hk46 rfl rfl x3 rfl)
        · exact sj_re (eLit 5)
    · exact (v_C3_ofChanges_91 hk46 rfl rfl x3 rfl)
def G3_ofChanges_46 : Nat → Int → Int → Nat → Int → JM Int
  | 0 => fun _ _ _ _ => nof
  | n + 1 => fun x1 x2 x3 x4 => G3_ofChanges_46_st  (G3_ofChanges_46  n) x1 x2 x3 x4
theorem v_C3_ofChanges_46  : ∀ (n : Nat) {n_x1 : Int32} {x1 : Int} (e_x1 : n_x1 = iI x1) {n_x2 : Int32} {x2 : Int} (e_x2 : n_x2 = iI x2) (x3 : Nat) {n_x4 : Int32} {x4 : Int} (e_x4 : n_x4 = iI x4), Sj iI (C3_ofChanges_46  n n_x1 n_x2 x3 n_x4) (G3_ofChanges_46  n x1 x2 x3 x4) := by
  intro n
  induction n with
  | zero => intro n_x1 x1 e_x1 n_x2 x2 e_x2 x3 n_x4 x4 e_x4; exact sj_nf
  | succ n ih => intro n_x1 x1 e_x1 n_x2 x2 e_x2 x3 n_x4 x4 e_x4; exact v_C3_ofChanges_46_st  (ih) e_x1 e_x2 x3 e_x4
def G3_ofChanges_43 (x1 : Int) (x2 : Int) (x3 : Nat) : JM Int :=
  (G3_ofChanges_46 LFU x1 x2 x3 x1)
theorem v_C3_ofChanges_43  {n_x1 : Int32} {x1 : Int} (e_x1 : n_x1 = iI x1) {n_x2 : Int32} {x2 : Int} (e_x2 : n_x2 = iI x2) (x3 : Nat) : Sj iI (C3_ofChanges_43  n_x1 n_x2 x3) (G3_ofChanges_43  x1 x2 x3) := by
  subst e_x1
  subst e_x2
  unfold C3_ofChanges_43 G3_ofChanges_43
  exact (v_C3_ofChanges_46 LFU rfl rfl x3 rfl)
def G3_ofChanges_3_st (k3 : Int → Int → Nat → Int → JM Int) (x1 : Int) (x2 : Int) (x3 : Nat) (x4 : Int) : JM Int :=
  ig (R32 x2) <|
  ig (R32 x4) <|
  if x2 ≤ x4 then ((G3_ofChanges_43 x1 x2 x3)) else (ib (G8_get 9 x4) fun v1 =>
  ib (G8_get 10 x4) fun v2 =>
  ib (jE (2, x3)) fun _ =>
  ib (G6_slotOf x3 v1 v2) fun v3 =>
  ig (R32 v3) <|
  if v3 = (-1) then (jret 4) else ((k3 x1 x2 x3 (x4 + 1))))
theorem v_C3_ofChanges_3_st {n_k3 : Int32 → Int32 → Nat → Int32 → CM Int32} {k3 : Int → Int → Nat → Int → JM Int} (hk3 : ∀ {n0 : Int32} {z0 : Int} (_ : n0 = iI z0) {n1 : Int32} {z1 : Int} (_ : n1 = iI z1) (z2 : Nat) {n3 : Int32} {z3 : Int} (_ : n3 = iI z3), Sj iI (n_k3 n0 n1 z2 n3) (k3 z0 z1 z2 z3)) {n_x1 : Int32} {x1 : Int} (e_x1 : n_x1 = iI x1) {n_x2 : Int32} {x2 : Int} (e_x2 : n_x2 = iI x2) (x3 : Nat) {n_x4 : Int32} {x4 : Int} (e_x4 : n_x4 = iI x4) : Sj iI (C3_ofChanges_3_st n_k3 n_x1 n_x2 x3 n_x4) (G3_ofChanges_3_st k3 x1 x2 x3 x4) := by
  subst e_x1
  subst e_x2
  subst e_x4
  unfold C3_ofChanges_3_st G3_ofChanges_3_st
  refine sj_ig fun h1 => ?_
  refine sj_ig fun h2 => ?_
  refine sj_ite (cLe rfl rfl ⟨h1, h2⟩) ?_ ?_
  · exact (v_C3_ofChanges_43 rfl rfl x3)
  · refine sj_E0 (fun _ => rfl) ?_
    refine sj_b (v_C8_get 9 rfl) fun v1 => ?_
    refine sj_E0 (fun _ => rfl) ?_
    refine sj_b (v_C8_get 10 rfl) fun v2 => ?_
    refine sj_b sj_E fun _ => ?_
    refine sj_b (v_C6_slotOf x3 rfl rfl) fun v3 => ?_
    refine sj_ig fun h3 => ?_
    refine sj_ite (cEq rfl (eLn 1) ⟨h3, (by decide)⟩) ?_ ?_
    · exact sj_re (eLit 4)
    · exact (hk3 rfl rfl x3 (eAdd rfl (eLit 1)))
def G3_ofChanges_3 : Nat → Int → Int → Nat → Int → JM Int
  | 0 => fun _ _ _ _ => nof
  | n + 1 => fun x1 x2 x3 x4 => G3_ofChanges_3_st  (G3_ofChanges_3  n) x1 x2 x3 x4
theorem v_C3_ofChanges_3  : ∀ (n : Nat) {n_x1 : Int32} {x1 : Int} (e_x1 : n_x1 = iI x1) {n_x2 : Int32} {x2 : Int} (e_x2 : n_x2 = iI x2) (x3 : Nat) {n_x4 : Int32} {x4 : Int} (e_x4 : n_x4 = iI x4), Sj iI (C3_ofChanges_3  n n_x1 n_x2 x3 n_x4) (G3_ofChanges_3  n x1 x2 x3 x4) := by
  intro n
  induction n with
  | zero => intro n_x1 x1 e_x1 n_x2 x2 e_x2 x3 n_x4 x4 e_x4; exact sj_nf
  | succ n ih => intro n_x1 x1 e_x1 n_x2 x2 e_x2 x3 n_x4 x4 e_x4; exact v_C3_ofChanges_3_st  (ih) e_x1 e_x2 x3 e_x4
def G3_ofChanges (a1 : Int) (a2 : Int) (a3 : Nat) : JM Int :=
  (G3_ofChanges_3 LFU a1 a2 a3 a1)
theorem v_C3_ofChanges  {n_a1 : Int32} {a1 : Int} (e_a1 : n_a1 = iI a1) {n_a2 : Int32} {a2 : Int} (e_a2 : n_a2 = iI a2) (a3 : Nat) : Sj iI (C3_ofChanges  n_a1 n_a2 a3) (G3_ofChanges  a1 a2 a3) := by
  subst e_a1
  subst e_a2
  unfold C3_ofChanges G3_ofChanges
  exact (v_C3_ofChanges_3 LFU rfl rfl a3 rfl)
def G3_ofGroup_140 (x1 : Int) (x2 : Int) (x3 : Nat) (x4 : Int) (x6 : Int) (x7 : Int) (y0 : Int) : JM Int :=
  ib (jE (2, x3)) fun _ =>
  ib (G6_addGroup x3 x4 y0 x6 x7) fun _ =>
  ib (G8_get 7 x1) fun v1 =>
  ib (G3_ofSigns x2 v1 x4 y0) fun v2 =>
  ig (R32 v2) <|
  if v2 = 0 then (jret 4) else (ib (G3_ofChanges x2 v1 x3) fun v3 =>
  jret v3)
theorem v_C3_ofGroup_140  {n_x1 : Int32} {x1 : Int} (e_x1 : n_x1 = iI x1) {n_x2 : Int32} {x2 : Int} (e_x2 : n_x2 = iI x2) (x3 : Nat) {n_x4 : Int32} {x4 : Int} (e_x4 : n_x4 = iI x4) {n_x6 : Int32} {x6 : Int} (e_x6 : n_x6 = iI x6) {n_x7 : Int32} {x7 : Int} (e_x7 : n_x7 = iI x7) {n_y0 : Int32} {y0 : Int} (e_y0 : n_y0 = iI y0) : Sj iI (C3_ofGroup_140  n_x1 n_x2 x3 n_x4 n_x6 n_x7 n_y0) (G3_ofGroup_140  x1 x2 x3 x4 x6 x7 y0) := by
  subst e_x1
  subst e_x2
  subst e_x4
  subst e_x6
  subst e_x7
  subst e_y0
  unfold C3_ofGroup_140 G3_ofGroup_140
  refine sj_b sj_E fun _ => ?_
  refine sj_b (v_C6_addGroup x3 rfl rfl rfl rfl) fun _ => ?_
  refine sj_E0 (fun _ => rfl) ?_
  refine sj_b (v_C8_get 7 rfl) fun v1 => ?_
  refine sj_b (v_C3_ofSigns rfl rfl rfl rfl) fun v2 => ?_
  refine sj_ig fun h1 => ?_
  refine sj_ite (cEq rfl (eLit 0) ⟨h1, (by decide)⟩) ?_ ?_
  · exact sj_re (eLit 4)
  · refine sj_b (v_C3_ofChanges rfl rfl x3) fun v3 => ?_
    exact sj_re rfl
def G3_ofGroup_109 (x1 : Int) (x2 : Int) (x3 : Nat) (x4 : Int) (x5 : Int) (x6 : Int) (x7 : Int) : JM Int :=
  ib (G3_isSize x6) fun v1 =>
  ig (R32 v1) <|
  if v1 = 0 then (jret 3) else (ib (G3_isSize x7) fun v2 =>
  ig (R32 v2) <|
  if v2 = 0 then (jret 3) else (ig (R32 x5) <|
  if x5 = (-1) then ((G3_ofGroup_140 x1 x2 x3 x4 x6 x7 x4)) else ((G3_ofGroup_140 x1 x2 x3 x4 x6 x7 x5))))
theorem v_C3_ofGroup_109  {n_x1 : Int32} {x1 : Int} (e_x1 : n_x1 = iI x1) {n_x2 : Int32} {x2 : Int} (e_x2 : n_x2 = iI x2) (x3 : Nat) {n_x4 : Int32} {x4 : Int} (e_x4 : n_x4 = iI x4) {n_x5 : Int32} {x5 : Int} (e_x5 : n_x5 = iI x5) {n_x6 : Int32} {x6 : Int} (e_x6 : n_x6 = iI x6) {n_x7 : Int32} {x7 : Int} (e_x7 : n_x7 = iI x7) : Sj iI (C3_ofGroup_109  n_x1 n_x2 x3 n_x4 n_x5 n_x6 n_x7) (G3_ofGroup_109  x1 x2 x3 x4 x5 x6 x7) := by
  subst e_x1
  subst e_x2
  subst e_x4
  subst e_x5
  subst e_x6
  subst e_x7
  unfold C3_ofGroup_109 G3_ofGroup_109
  refine sj_b (v_C3_isSize rfl) fun v1 => ?_
  refine sj_ig fun h1 => ?_
  refine sj_ite (cEq rfl (eLit 0) ⟨h1, (by decide)⟩) ?_ ?_
  · exact sj_re (eLit 3)
  · refine sj_b (v_C3_isSize rfl) fun v2 => ?_
    refine sj_ig fun h2 => ?_
    refine sj_ite (cEq rfl (eLit 0) ⟨h2, (by decide)⟩) ?_ ?_
    · exact sj_re (eLit 3)
    · refine sj_ig fun h3 => ?_
      refine sj_ite (cEq rfl (eLn 1) ⟨h3, (by decide)⟩) ?_ ?_
      · exact (v_C3_ofGroup_140 rfl rfl x3 rfl rfl rfl rfl)
      · exact (v_C3_ofGroup_140 rfl rfl x3 rfl rfl rfl rfl)
def G3_ofGroup_79 (x1 : Int) (x2 : Int) (x3 : Nat) (x4 : Int) (x5 : Int) (x6 : Int) (x7 : Int) : JM Int :=
  ig (R32 x4) <|
  if x4 = 70 then (ib (jE (2, x3)) fun _ =>
  ib (G6_sizeOf x3 70) fun v1 =>
  ig (R32 v1) <|
  if v1 ≤ 0 then ((G3_ofGroup_109 x1 x2 x3 x4 x5 x6 x7)) else (jret 2)) else (ib (jG 7 x3) fun v2 =>
  ig (R32 v2) <|
  if v2 < x4 then ((G3_ofGroup_109 x1 x2 x3 x4 x5 x6 x7)) else (jret 2))
theorem v_C3_ofGroup_79  {n_x1 : Int32} {x1 : Int} (e_x1 : n_x1 = iI x1) {n_x2 : Int32} {x2 : Int} (e_x2 : n_x2 = iI x2) (x3 : Nat) {n_x4 : Int32} {x4 : Int} (e_x4 : n_x4 = iI x4) {n_x5 : Int32} {x5 : Int} (e_x5 : n_x5 = iI x5) {n_x6 : Int32} {x6 : Int} (e_x6 : n_x6 = iI x6) {n_x7 : Int32} {x7 : Int} (e_x7 : n_x7 = iI x7) : Sj iI (C3_ofGroup_79  n_x1 n_x2 x3 n_x4 n_x5 n_x6 n_x7) (G3_ofGroup_79  x1 x2 x3 x4 x5 x6 x7) := by
  subst e_x1
  subst e_x2
  subst e_x4
  subst e_x5
  subst e_x6
  subst e_x7
  unfold C3_ofGroup_79 G3_ofGroup_79
  refine sj_ig fun h1 => ?_
  refine sj_ite (cEq rfl (eLit 70) ⟨h1, (by decide)⟩) ?_ ?_
  · refine sj_b sj_E fun _ => ?_
    refine sj_b (v_C6_sizeOf x3 (eLit 70)) fun v1 => ?_
    refine sj_ig fun h2 => ?_
    refine sj_ite (cLe rfl (eLit 0) ⟨h2, (by decide)⟩) ?_ ?_
    · exact (v_C3_ofGroup_109 rfl rfl x3 rfl rfl rfl rfl)
    · exact sj_re (eLit 2)
  · refine sj_b sj_G fun v2 => ?_
    refine sj_ig fun h2 => ?_
    refine sj_ite (cLt rfl rfl ⟨h2, h1⟩) ?_ ?_
    · exact (v_C3_ofGroup_109 rfl rfl x3 rfl rfl rfl rfl)
    · exact sj_re (eLit 2)
def G3_ofGroup (a1 : Int) (a2 : Int) (a3 : Nat) : JM Int :=
  ib (G8_get 3 a1) fun v1 =>
  ib (G8_get 4 a1) fun v2 =>
  ib (G8_get 5 a1) fun v3 =>
  ib (G8_get 6 a1) fun v4 =>
  ig (R32 v2) <|
  if v2 = (-1) then ((G3_ofGroup_79 a1 a2 a3 v1 v2 v3 v4)) else (ig (R32 v1) <|
  if v1 = 0 then (jret 1) else (if v2 = 70 then (jret 1) else (if v1 < v2 then ((G3_ofGroup_79 a1 a2 a3 v1 v2 v3 v4)) else (jret 1))))
theorem v_C3_ofGroup  {n_a1 : Int32} {a1 : Int} (e_a1 : n_a1 = iI a1) {n_a2 : Int32} {a2 : Int} (e_a2 : n_a2 = iI a2) (a3 : Nat) : Sj iI (C3_ofGroup  n_a1 n_a2 a3) (G3_ofGroup  a1 a2 a3) := by
  subst e_a1
  subst e_a2
  unfold C3_ofGroup G3_ofGroup
  refine sj_E0 (fun _ => rfl) ?_
  refine sj_b (v_C8_get 3 rfl) fun v1 => ?_
  refine sj_E0 (fun _ => rfl) ?_
  refine sj_b (v_C8_get 4 rfl) fun v2 => ?_
  refine sj_E0 (fun _ => rfl) ?_
  refine sj_b (v_C8_get 5 rfl) fun v3 => ?_
  refine sj_E0 (fun _ => rfl) ?_
  refine sj_b (v_C8_get 6 rfl) fun v4 => ?_
  refine sj_ig fun h1 => ?_
  refine sj_ite (cEq rfl (eLn 1) ⟨h1, (by decide)⟩) ?_ ?_
  · exact (v_C3_ofGroup_79 rfl rfl a3 rfl rfl rfl rfl)
  · refine sj_ig fun h2 => ?_
    refine sj_ite (cEq rfl (eLit 0) ⟨h2, (by decide)⟩) ?_ ?_
    · exact sj_re (eLit 1)
    · refine sj_ite (cEq rfl (eLit 70) ⟨h1, (by decide)⟩) ?_ ?_
      · exact sj_re (eLit 1)
      · refine sj_ite (cLt rfl rfl ⟨h2, h1⟩) ?_ ?_
        · exact (v_C3_ofGroup_79 rfl rfl a3 rfl rfl rfl rfl)
        · exact sj_re (eLit 1)
def G3_ofFormula_8_st (k8 : Nat → Int → Int → JM Int) (x1 : Nat) (x2 : Int) (x3 : Int) : JM Int :=
  ib (jG 1 3) fun v1 =>
  ig (R32 v1) <|
  ig (R32 x3) <|
  if v1 ≤ x3 then (jret 0) else (ib (G3_ofGroup x3 x2 x1) fun v2 =>
  ig (R32 v2) <|
  if v2 = 0 then (ib (G8_get 7 x3) fun v3 =>
  (k8 x1 v3 (x3 + 1))) else (jret v2))
theorem v_C3_ofFormula_8_st {n_k8 : Nat → Int32 → Int32 → CM Int32} {k8 : Nat → Int → Int → JM Int} (hk8 : ∀ (z0 : Nat) {n1 : Int32} {z1 : Int} (_ : n1 = iI z1) {n2 : Int32} {z2 : Int} (_ : n2 = iI z2), Sj iI (n_k8 z0 n1 n2) (k8 z0 z1 z2)) (x1 : Nat) {n_x2 : Int32} {x2 : Int} (e_x2 : n_x2 = iI x2) {n_x3 : Int32} {x3 : Int} (e_x3 : n_x3 = iI x3) : Sj iI (C3_ofFormula_8_st n_k8 x1 n_x2 n_x3) (G3_ofFormula_8_st k8 x1 x2 x3) := by
  subst e_x2
  subst e_x3
  unfold C3_ofFormula_8_st G3_ofFormula_8_st
  refine sj_b sj_G fun v1 => ?_
  refine sj_ig fun h1 => ?_
  refine sj_ig fun h2 => ?_
  refine sj_ite (cLe rfl rfl ⟨h1, h2⟩) ?_ ?_
  · exact sj_re (eLit 0)
  · refine sj_b (v_C3_ofGroup rfl rfl x1) fun v2 => ?_
    refine sj_ig fun h3 => ?_
    refine sj_ite (cEq rfl (eLit 0) ⟨h3, (by decide)⟩) ?_ ?_
    · refine sj_E0 (fun _ => rfl) ?_
      refine sj_b (v_C8_get 7 rfl) fun v3 => ?_
      exact (hk8 x1 rfl (eAdd rfl (eLit 1)))
    · exact sj_re rfl
def G3_ofFormula_8 : Nat → Nat → Int → Int → JM Int
  | 0 => fun _ _ _ => nof
  | n + 1 => fun x1 x2 x3 => G3_ofFormula_8_st  (G3_ofFormula_8  n) x1 x2 x3
theorem v_C3_ofFormula_8  : ∀ (n : Nat) (x1 : Nat) {n_x2 : Int32} {x2 : Int} (e_x2 : n_x2 = iI x2) {n_x3 : Int32} {x3 : Int} (e_x3 : n_x3 = iI x3), Sj iI (C3_ofFormula_8  n x1 n_x2 n_x3) (G3_ofFormula_8  n x1 x2 x3) := by
  intro n
  induction n with
  | zero => intro x1 n_x2 x2 e_x2 n_x3 x3 e_x3; exact sj_nf
  | succ n ih => intro x1 n_x2 x2 e_x2 n_x3 x3 e_x3; exact v_C3_ofFormula_8_st  (ih) x1 e_x2 e_x3
def G3_ofFormula (a1 : Nat) : JM Int :=
  ib (jE (2, a1)) fun _ =>
  ib (G6_clear a1) fun _ =>
  (G3_ofFormula_8 LFU a1 0 0)
theorem v_C3_ofFormula  (a1 : Nat) : Sj iI (C3_ofFormula  a1) (G3_ofFormula  a1) := by
  unfold C3_ofFormula G3_ofFormula
  refine sj_b sj_E fun _ => ?_
  refine sj_b (v_C6_clear a1) fun _ => ?_
  exact (v_C3_ofFormula_8 LFU a1 (eLit 0) (eLit 0))
def G6_insertedAt (this : Nat) (a1 : Int) : JM Int :=
  ig (R32 a1) <|
  if a1 < 0 then (jret 0) else (ib (jE (2, this)) fun _ =>
  ib (jN 6 this) fun v1 =>
  ig (R32 v1) <|
  if a1 < v1 then (ib (jE (2, this)) fun _ =>
  ib (jAb 6 this a1) fun v2 =>
  jret v2) else (jret 0))
theorem v_C6_insertedAt  (this : Nat) {n_a1 : Int32} {a1 : Int} (e_a1 : n_a1 = iI a1) : Sj iI (C6_insertedAt  this n_a1) (G6_insertedAt  this a1) := by
  subst e_a1
  unfold C6_insertedAt G6_insertedAt
  refine sj_ig fun h1 => ?_
  refine sj_ite (cLt rfl (eLit 0) ⟨h1, (by decide)⟩) ?_ ?_
  · exact sj_re (eLit 0)
  · refine sj_b sj_E fun _ => ?_
    refine sj_b sj_N fun v1 => ?_
    refine sj_ig fun h2 => ?_
    refine sj_ite (cLt rfl rfl ⟨h1, h2⟩) ?_ ?_
    · refine sj_b sj_E fun _ => ?_
      refine sj_b (sj_Ab rfl) fun v2 => ?_
      exact sj_re rfl
    · exact sj_re (eLit 0)
def G6_leavesInAll_26_st (k26 : Nat → Int → Int → JM Int) (this : Nat) (x1 : Int) (x2 : Int) : JM Int :=
  ig (R32 x2) <|
  if 852 ≤ x2 then (jret x1) else (ib (jE (2, this)) fun _ =>
  ib (G6_insertedAt this x2) fun v1 =>
  (k26 this (x1 + v1) (x2 + 1)))
theorem v_C6_leavesInAll_26_st {n_k26 : Nat → Int32 → Int32 → CM Int32} {k26 : Nat → Int → Int → JM Int} (hk26 : ∀ (z0 : Nat) {n1 : Int32} {z1 : Int} (_ : n1 = iI z1) {n2 : Int32} {z2 : Int} (_ : n2 = iI z2), Sj iI (n_k26 z0 n1 n2) (k26 z0 z1 z2)) (this : Nat) {n_x1 : Int32} {x1 : Int} (e_x1 : n_x1 = iI x1) {n_x2 : Int32} {x2 : Int} (e_x2 : n_x2 = iI x2) : Sj iI (C6_leavesInAll_26_st n_k26 this n_x1 n_x2) (G6_leavesInAll_26_st k26 this x1 x2) := by
  subst e_x1
  subst e_x2
  unfold C6_leavesInAll_26_st G6_leavesInAll_26_st
  refine sj_ig fun h1 => ?_
  refine sj_ite (cLe (eLit 852) rfl ⟨(by decide), h1⟩) ?_ ?_
  · exact sj_re rfl
  · refine sj_b sj_E fun _ => ?_
    refine sj_b (v_C6_insertedAt this rfl) fun v1 => ?_
    exact (hk26 this (eAdd rfl rfl) (eAdd rfl (eLit 1)))
def G6_leavesInAll_26 : Nat → Nat → Int → Int → JM Int
  | 0 => fun _ _ _ => nof
  | n + 1 => fun this x1 x2 => G6_leavesInAll_26_st  (G6_leavesInAll_26  n) this x1 x2
theorem v_C6_leavesInAll_26  : ∀ (n : Nat) (this : Nat) {n_x1 : Int32} {x1 : Int} (e_x1 : n_x1 = iI x1) {n_x2 : Int32} {x2 : Int} (e_x2 : n_x2 = iI x2), Sj iI (C6_leavesInAll_26  n this n_x1 n_x2) (G6_leavesInAll_26  n this x1 x2) := by
  intro n
  induction n with
  | zero => intro this n_x1 x1 e_x1 n_x2 x2 e_x2; exact sj_nf
  | succ n ih => intro this n_x1 x1 e_x1 n_x2 x2 e_x2; exact v_C6_leavesInAll_26_st  (ih) this e_x1 e_x2
def G6_leavesInAll_24 (this : Nat) (x1 : Int) : JM Int :=
  (G6_leavesInAll_26 LFU this x1 0)
theorem v_C6_leavesInAll_24  (this : Nat) {n_x1 : Int32} {x1 : Int} (e_x1 : n_x1 = iI x1) : Sj iI (C6_leavesInAll_24  this n_x1) (G6_leavesInAll_24  this x1) := by
  subst e_x1
  unfold C6_leavesInAll_24 G6_leavesInAll_24
  exact (v_C6_leavesInAll_26 LFU this rfl (eLit 0))
def G6_leavesInAll_4_st (k4 : Nat → Int → Int → JM Int) (this : Nat) (x1 : Int) (x2 : Int) : JM Int :=
  ig (R32 x2) <|
  if 71 ≤ x2 then ((G6_leavesInAll_24 this x1)) else (ib (jE (2, this)) fun _ =>
  ib (G6_sizeOf this x2) fun v1 =>
  (k4 this (x1 + v1) (x2 + 1)))
theorem v_C6_leavesInAll_4_st {n_k4 : Nat → Int32 → Int32 → CM Int32} {k4 : Nat → Int → Int → JM Int} (hk4 : ∀ (z0 : Nat) {n1 : Int32} {z1 : Int} (_ : n1 = iI z1) {n2 : Int32} {z2 : Int} (_ : n2 = iI z2), Sj iI (n_k4 z0 n1 n2) (k4 z0 z1 z2)) (this : Nat) {n_x1 : Int32} {x1 : Int} (e_x1 : n_x1 = iI x1) {n_x2 : Int32} {x2 : Int} (e_x2 : n_x2 = iI x2) : Sj iI (C6_leavesInAll_4_st n_k4 this n_x1 n_x2) (G6_leavesInAll_4_st k4 this x1 x2) := by
  subst e_x1
  subst e_x2
  unfold C6_leavesInAll_4_st G6_leavesInAll_4_st
  refine sj_ig fun h1 => ?_
  refine sj_ite (cLe (eLit 71) rfl ⟨(by decide), h1⟩) ?_ ?_
  · exact (v_C6_leavesInAll_24 this rfl)
  · refine sj_b sj_E fun _ => ?_
    refine sj_b (v_C6_sizeOf this rfl) fun v1 => ?_
    exact (hk4 this (eAdd rfl rfl) (eAdd rfl (eLit 1)))
def G6_leavesInAll_4 : Nat → Nat → Int → Int → JM Int
  | 0 => fun _ _ _ => nof
  | n + 1 => fun this x1 x2 => G6_leavesInAll_4_st  (G6_leavesInAll_4  n) this x1 x2
theorem v_C6_leavesInAll_4  : ∀ (n : Nat) (this : Nat) {n_x1 : Int32} {x1 : Int} (e_x1 : n_x1 = iI x1) {n_x2 : Int32} {x2 : Int} (e_x2 : n_x2 = iI x2), Sj iI (C6_leavesInAll_4  n this n_x1 n_x2) (G6_leavesInAll_4  n this x1 x2) := by
  intro n
  induction n with
  | zero => intro this n_x1 x1 e_x1 n_x2 x2 e_x2; exact sj_nf
  | succ n ih => intro this n_x1 x1 e_x1 n_x2 x2 e_x2; exact v_C6_leavesInAll_4_st  (ih) this e_x1 e_x2
def G6_leavesInAll (this : Nat) : JM Int :=
  (G6_leavesInAll_4 LFU this 0 0)
theorem v_C6_leavesInAll  (this : Nat) : Sj iI (C6_leavesInAll  this) (G6_leavesInAll  this) := by
  unfold C6_leavesInAll G6_leavesInAll
  exact (v_C6_leavesInAll_4 LFU this (eLit 0) (eLit 0))
def G11_refusalOfDraft : JM Int :=
  ib (jG 10 0) fun v1 =>
  ig (R32 v1) <|
  if v1 = 0 then (ib (G6_leavesInAll 0) fun v2 =>
  ig (R32 v2) <|
  if v2 ≤ 400 then (jret 0) else (jret 9)) else (jret 4)
theorem v_C11_refusalOfDraft  : Sj iI (C11_refusalOfDraft  ) (G11_refusalOfDraft  ) := by
  unfold C11_refusalOfDraft G11_refusalOfDraft
  refine sj_b sj_G fun v1 => ?_
  refine sj_ig fun h1 => ?_
  refine sj_ite (cEq rfl (eLit 0) ⟨h1, (by decide)⟩) ?_ ?_
  · refine sj_E0 (fun _ => rfl) ?_
    refine sj_b (v_C6_leavesInAll 0) fun v2 => ?_
    refine sj_ig fun h2 => ?_
    refine sj_ite (cLe rfl (eLit 400) ⟨h2, (by decide)⟩) ?_ ?_
    · exact sj_re (eLit 0)
    · exact sj_re (eLit 9)
  · exact sj_re (eLit 4)
def G11_draftFormula : JM Int :=
  ib (G3_ofFormula 0) fun v1 =>
  ib (jP 10 0 v1) fun _ =>
  ib G11_refusalOfDraft fun v2 =>
  jret v2
theorem v_C11_draftFormula  : Sj iI (C11_draftFormula  ) (G11_draftFormula  ) := by
  unfold C11_draftFormula G11_draftFormula
  refine sj_b (v_C3_ofFormula 0) fun v1 => ?_
  refine sj_b (sj_P rfl) fun _ => ?_
  refine sj_b v_C11_refusalOfDraft fun v2 => ?_
  exact sj_re rfl
def G6_signOf (this : Nat) (a1 : Int) : JM Int :=
  ig (R32 a1) <|
  if a1 < 0 then (jret (-1)) else (ib (jG 6 this) fun v1 =>
  ig (R32 v1) <|
  if v1 ≤ a1 then (jret (-1)) else (ib (jE (2, this)) fun _ =>
  ib (jN 3 this) fun v2 =>
  ig (R32 v2) <|
  if a1 < v2 then (ib (jE (2, this)) fun _ =>
  ib (jA 3 this a1) fun v3 =>
  jret v3) else (jret (-1))))
theorem v_C6_signOf  (this : Nat) {n_a1 : Int32} {a1 : Int} (e_a1 : n_a1 = iI a1) : Sj iI (C6_signOf  this n_a1) (G6_signOf  this a1) := by
  subst e_a1
  unfold C6_signOf G6_signOf
  refine sj_ig fun h1 => ?_
  refine sj_ite (cLt rfl (eLit 0) ⟨h1, (by decide)⟩) ?_ ?_
  · exact sj_re (eLn 1)
  · refine sj_b sj_G fun v1 => ?_
    refine sj_ig fun h2 => ?_
    refine sj_ite (cLe rfl rfl ⟨h2, h1⟩) ?_ ?_
    · exact sj_re (eLn 1)
    · refine sj_b sj_E fun _ => ?_
      refine sj_b sj_N fun v2 => ?_
      refine sj_ig fun h3 => ?_
      refine sj_ite (cLt rfl rfl ⟨h1, h3⟩) ?_ ?_
      · refine sj_b sj_E fun _ => ?_
        refine sj_b (sj_A rfl) fun v3 => ?_
        exact sj_re rfl
      · exact sj_re (eLn 1)
def G9_goesOn (a0 : Nat) (a1 : Int) : JM Int :=
  ib (jE (2, a0)) fun _ =>
  ib (G6_signOf a0 a1) fun v1 =>
  ib (jE (2, a0)) fun _ =>
  ib (G6_signOf a0 (a1 + 1)) fun v2 =>
  ig (R32 v1) <|
  if v1 ≤ 0 then (jret 0) else (ig (R32 v2) <|
  if 70 ≤ v2 then (jret 0) else (ig (R32 (v1 + 1)) <|
  if v2 = (v1 + 1) then (ib (jE (2, a0)) fun _ =>
  ib (G6_sizeOf a0 v1) fun v3 =>
  ib (jE (2, a0)) fun _ =>
  ib (G6_sizeOf a0 v2) fun v4 =>
  ig (R32 v3) <|
  ig (R32 v4) <|
  if v3 = v4 then (jret 1) else (jret 0)) else (jret 0)))
theorem v_C9_goesOn  (a0 : Nat) {n_a1 : Int32} {a1 : Int} (e_a1 : n_a1 = iI a1) : Sj iI (C9_goesOn  a0 n_a1) (G9_goesOn  a0 a1) := by
  subst e_a1
  unfold C9_goesOn G9_goesOn
  refine sj_b sj_E fun _ => ?_
  refine sj_b (v_C6_signOf a0 rfl) fun v1 => ?_
  refine sj_b sj_E fun _ => ?_
  refine sj_b (v_C6_signOf a0 (eAdd rfl (eLit 1))) fun v2 => ?_
  refine sj_ig fun h1 => ?_
  refine sj_ite (cLe rfl (eLit 0) ⟨h1, (by decide)⟩) ?_ ?_
  · exact sj_re (eLit 0)
  · refine sj_ig fun h2 => ?_
    refine sj_ite (cLe (eLit 70) rfl ⟨(by decide), h2⟩) ?_ ?_
    · exact sj_re (eLit 0)
    · refine sj_ig fun h3 => ?_
      refine sj_ite (cEq rfl (eAdd rfl (eLit 1)) ⟨h2, h3⟩) ?_ ?_
      · refine sj_b sj_E fun _ => ?_
        refine sj_b (v_C6_sizeOf a0 rfl) fun v3 => ?_
        refine sj_b sj_E fun _ => ?_
        refine sj_b (v_C6_sizeOf a0 rfl) fun v4 => ?_
        refine sj_ig fun h4 => ?_
        refine sj_ig fun h5 => ?_
        refine sj_ite (cEq rfl rfl ⟨h4, h5⟩) ?_ ?_
        · exact sj_re (eLit 1)
        · exact sj_re (eLit 0)
      · exact sj_re (eLit 0)
def G9_writeSign_61_st (k61 : Int → Int → Int → JM Unit) (x2 : Int) (x3 : Int) (x4 : Int) : JM Unit :=
  ig (R32 x3) <|
  ig (R32 x4) <|
  if x3 ≤ x4 then (jret ()) else (ib (jSc 3 x2) fun v1 =>
  ib (jXc v1) fun _ =>
  (k61 x2 x3 (x4 + 1)))
theorem v_C9_writeSign_61_st {n_k61 : Int32 → Int32 → Int32 → CM Unit} {k61 : Int → Int → Int → JM Unit} (hk61 : ∀ {n0 : Int32} {z0 : Int} (_ : n0 = iI z0) {n1 : Int32} {z1 : Int} (_ : n1 = iI z1) {n2 : Int32} {z2 : Int} (_ : n2 = iI z2), Sj (fun x : Unit => x) (n_k61 n0 n1 n2) (k61 z0 z1 z2)) {n_x2 : Int32} {x2 : Int} (e_x2 : n_x2 = iI x2) {n_x3 : Int32} {x3 : Int} (e_x3 : n_x3 = iI x3) {n_x4 : Int32} {x4 : Int} (e_x4 : n_x4 = iI x4) : Sj (fun x : Unit => x) (C9_writeSign_61_st n_k61 n_x2 n_x3 n_x4) (G9_writeSign_61_st k61 x2 x3 x4) := by
  subst e_x2
  subst e_x3
  subst e_x4
  unfold C9_writeSign_61_st G9_writeSign_61_st
  refine sj_ig fun h1 => ?_
  refine sj_ig fun h2 => ?_
  refine sj_ite (cLe rfl rfl ⟨h1, h2⟩) ?_ ?_
  · exact sj_rn
  · refine sj_b (sj_Sc rfl) fun v1 => ?_
    refine sj_b (sj_Xc rfl) fun _ => ?_
    exact (hk61 rfl rfl (eAdd rfl (eLit 1)))
def G9_writeSign_61 : Nat → Int → Int → Int → JM Unit
  | 0 => fun _ _ _ => nof
  | n + 1 => fun x2 x3 x4 => G9_writeSign_61_st  (G9_writeSign_61  n) x2 x3 x4
theorem v_C9_writeSign_61  : ∀ (n : Nat) {n_x2 : Int32} {x2 : Int} (e_x2 : n_x2 = iI x2) {n_x3 : Int32} {x3 : Int} (e_x3 : n_x3 = iI x3) {n_x4 : Int32} {x4 : Int} (e_x4 : n_x4 = iI x4), Sj (fun x : Unit => x) (C9_writeSign_61  n n_x2 n_x3 n_x4) (G9_writeSign_61  n x2 x3 x4) := by
  intro n
  induction n with
  | zero => intro n_x2 x2 e_x2 n_x3 x3 e_x3 n_x4 x4 e_x4; exact sj_nf
  | succ n ih => intro n_x2 x2 e_x2 n_x3 x3 e_x3 n_x4 x4 e_x4; exact v_C9_writeSign_61_st  (ih) e_x2 e_x3 e_x4
def G9_writeSign (a1 : Int) : JM Unit :=
  ig (R32 a1) <|
  if 0 < a1 then (if a1 < 70 then (ib (jSl 3) fun v1 =>
  ib (jrI (a1 - 1) v1) fun v2 =>
  ib (jSl 3) fun v3 =>
  ib (jdI (a1 - 1) v3) fun v4 =>
  (G9_writeSign_61 LFU v2 (v4 + 1) 0)) else (ib (jXs 2) fun _ =>
  jret ())) else (ib (jXs 1) fun _ =>
  jret ())
theorem v_C9_writeSign  {n_a1 : Int32} {a1 : Int} (e_a1 : n_a1 = iI a1) : Sj (fun x : Unit => x) (C9_writeSign  n_a1) (G9_writeSign  a1) := by
  subst e_a1
  unfold C9_writeSign G9_writeSign
  refine sj_ig fun h1 => ?_
  refine sj_ite (cLt (eLit 0) rfl ⟨(by decide), h1⟩) ?_ ?_
  · refine sj_ite (cLt rfl (eLit 70) ⟨h1, (by decide)⟩) ?_ ?_
    · refine sj_b sj_Sl fun v1 => ?_
      refine sj_b (sj_rI (eSub rfl (eLit 1)) rfl) fun v2 => ?_
      refine sj_b sj_Sl fun v3 => ?_
      refine sj_b (sj_dI (eSub rfl (eLit 1)) rfl) fun v4 => ?_
      exact (v_C9_writeSign_61 LFU rfl (eAdd rfl (eLit 1)) (eLit 0))
    · refine sj_b sj_Xs fun _ => ?_
      exact sj_rn
  · refine sj_b sj_Xs fun _ => ?_
    exact sj_rn
def G6_fateOf (this : Nat) (a1 : Int) : JM Int :=
  ig (R32 a1) <|
  if a1 < 0 then (jret 0) else (ib (jE (2, this)) fun _ =>
  ib (jN 5 this) fun v1 =>
  ig (R32 v1) <|
  if a1 < v1 then (ib (jE (2, this)) fun _ =>
  ib (jAb 5 this a1) fun v2 =>
  jret v2) else (jret 0))
theorem v_C6_fateOf  (this : Nat) {n_a1 : Int32} {a1 : Int} (e_a1 : n_a1 = iI a1) : Sj iI (C6_fateOf  this n_a1) (G6_fateOf  this a1) := by
  subst e_a1
  unfold C6_fateOf G6_fateOf
  refine sj_ig fun h1 => ?_
  refine sj_ite (cLt rfl (eLit 0) ⟨h1, (by decide)⟩) ?_ ?_
  · exact sj_re (eLit 0)
  · refine sj_b sj_E fun _ => ?_
    refine sj_b sj_N fun v1 => ?_
    refine sj_ig fun h2 => ?_
    refine sj_ite (cLt rfl rfl ⟨h1, h2⟩) ?_ ?_
    · refine sj_b sj_E fun _ => ?_
      refine sj_b (sj_Ab rfl) fun v2 => ?_
      exact sj_re rfl
    · exact sj_re (eLit 0)
def G9_writeChangesOf_146 (k3 : Nat → Int → Int → Int → JM Unit) (x1 : Nat) (x2 : Int) (x3 : Int) (x4 : Int) : JM Unit :=
  (k3 x1 x2 x3 (x4 + 1))
theorem v_C9_writeChangesOf_146 {n_k3 : Nat → Int32 → Int32 → Int32 → CM Unit} {k3 : Nat → Int → Int → Int → JM Unit} (hk3 : ∀ (z0 : Nat) {n1 : Int32} {z1 : Int} (_ : n1 = iI z1) {n2 : Int32} {z2 : Int} (_ : n2 = iI z2) {n3 : Int32} {z3 : Int} (_ : n3 = iI z3), Sj (fun x : Unit => x) (n_k3 z0 n1 n2 n3) (k3 z0 z1 z2 z3)) (x1 : Nat) {n_x2 : Int32} {x2 : Int} (e_x2 : n_x2 = iI x2) {n_x3 : Int32} {x3 : Int} (e_x3 : n_x3 = iI x3) {n_x4 : Int32} {x4 : Int} (e_x4 : n_x4 = iI x4) : Sj (fun x : Unit => x) (C9_writeChangesOf_146 n_k3 x1 n_x2 n_x3 n_x4) (G9_writeChangesOf_146 k3 x1 x2 x3 x4) := by
  subst e_x2
  subst e_x3
  subst e_x4
  unfold C9_writeChangesOf_146 G9_writeChangesOf_146
  exact (hk3 x1 rfl rfl (eAdd rfl (eLit 1)))
def G9_writeChangesOf_117 (k3 : Nat → Int → Int → Int → JM Unit) (x1 : Nat) (x2 : Int) (x3 : Int) (x4 : Int) (x7 : Int) (y0 : Int) : JM Unit :=
  ib (jXc y0) fun _ =>
  ib (G9_writeSign x2) fun _ =>
  ib (jXi x4) fun _ =>
  ib (jXc 43) fun _ =>
  ib (jXi x7) fun _ =>
  (G9_writeChangesOf_146 k3 x1 x2 x3 x4)
theorem v_C9_writeChangesOf_117 {n_k3 : Nat → Int32 → Int32 → Int32 → CM Unit} {k3 : Nat → Int → Int → Int → JM Unit} (hk3 : ∀ (z0 : Nat) {n1 : Int32} {z1 : Int} (_ : n1 = iI z1) {n2 : Int32} {z2 : Int} (_ : n2 = iI z2) {n3 : Int32} {z3 : Int} (_ : n3 = iI z3), Sj (fun x : Unit => x) (n_k3 z0 n1 n2 n3) (k3 z0 z1 z2 z3)) (x1 : Nat) {n_x2 : Int32} {x2 : Int} (e_x2 : n_x2 = iI x2) {n_x3 : Int32} {x3 : Int} (e_x3 : n_x3 = iI x3) {n_x4 : Int32} {x4 : Int} (e_x4 : n_x4 = iI x4) {n_x7 : Int32} {x7 : Int} (e_x7 : n_x7 = iI x7) {n_y0 : Int32} {y0 : Int} (e_y0 : n_y0 = iI y0) : Sj (fun x : Unit => x) (C9_writeChangesOf_117 n_k3 x1 n_x2 n_x3 n_x4 n_x7 n_y0) (G9_writeChangesOf_117 k3 x1 x2 x3 x4 x7 y0) := by
  subst e_x2
  subst e_x3
  subst e_x4
  subst e_x7
  subst e_y0
  unfold C9_writeChangesOf_117 G9_writeChangesOf_117
  refine sj_b (sj_Xc rfl) fun _ => ?_
  refine sj_b (v_C9_writeSign rfl) fun _ => ?_
  refine sj_b (sj_Xi rfl) fun _ => ?_
  refine sj_b (sj_Xc (eLit 43)) fun _ => ?_
  refine sj_b (sj_Xi rfl) fun _ => ?_
  exact (v_C9_writeChangesOf_146 hk3 x1 rfl rfl rfl)
def G9_writeChangesOf_90 (k3 : Nat → Int → Int → Int → JM Unit) (x1 : Nat) (x2 : Int) (x3 : Int) (x4 : Int) (x7 : Int) : JM Unit :=
  ig (R32 x7) <|
  if x7 ≤ 0 then ((G9_writeChangesOf_146 k3 x1 x2 x3 x4)) else (ib jXl fun v1 =>
  ig (R32 v1) <|
  ig (R32 x3) <|
  if v1 ≤ x3 then ((G9_writeChangesOf_117 k3 x1 x2 x3 x4 x7 40)) else ((G9_writeChangesOf_117 k3 x1 x2 x3 x4 x7 44)))
theorem v_C9_writeChangesOf_90 {n_k3 : Nat → Int32 → Int32 → Int32 → CM Unit} {k3 : Nat → Int → Int → Int → JM Unit} (hk3 : ∀ (z0 : Nat) {n1 : Int32} {z1 : Int} (_ : n1 = iI z1) {n2 : Int32} {z2 : Int} (_ : n2 = iI z2) {n3 : Int32} {z3 : Int} (_ : n3 = iI z3), Sj (fun x : Unit => x) (n_k3 z0 n1 n2 n3) (k3 z0 z1 z2 z3)) (x1 : Nat) {n_x2 : Int32} {x2 : Int} (e_x2 : n_x2 = iI x2) {n_x3 : Int32} {x3 : Int} (e_x3 : n_x3 = iI x3) {n_x4 : Int32} {x4 : Int} (e_x4 : n_x4 = iI x4) {n_x7 : Int32} {x7 : Int} (e_x7 : n_x7 = iI x7) : Sj (fun x : Unit => x) (C9_writeChangesOf_90 n_k3 x1 n_x2 n_x3 n_x4 n_x7) (G9_writeChangesOf_90 k3 x1 x2 x3 x4 x7) := by
  subst e_x2
  subst e_x3
  subst e_x4
  subst e_x7
  unfold C9_writeChangesOf_90 G9_writeChangesOf_90
  refine sj_ig fun h1 => ?_
  refine sj_ite (cLe rfl (eLit 0) ⟨h1, (by decide)⟩) ?_ ?_
  · exact (v_C9_writeChangesOf_146 hk3 x1 rfl rfl rfl)
  · refine sj_b sj_Xl fun v1 => ?_
    refine sj_ig fun h2 => ?_
    refine sj_ig fun h3 => ?_
    refine sj_ite (cLe rfl rfl ⟨h2, h3⟩) ?_ ?_
    · exact (v_C9_writeChangesOf_117 hk3 x1 rfl rfl rfl rfl (eLit 40))
    · exact (v_C9_writeChangesOf_117 hk3 x1 rfl rfl rfl rfl (eLit 44))
def G9_writeChangesOf_65 (k3 : Nat → Int → Int → Int → JM Unit) (x1 : Nat) (x2 : Int) (x3 : Int) (x4 : Int) (x6 : Int) (x7 : Int) (y0 : Int) : JM Unit :=
  ib (jXc y0) fun _ =>
  ib (jXc (iC16 x6)) fun _ =>
  ib (G9_writeSign x2) fun _ =>
  ib (jXi x4) fun _ =>
  (G9_writeChangesOf_90 k3 x1 x2 x3 x4 x7)
theorem v_C9_writeChangesOf_65 {n_k3 : Nat → Int32 → Int32 → Int32 → CM Unit} {k3 : Nat → Int → Int → Int → JM Unit} (hk3 : ∀ (z0 : Nat) {n1 : Int32} {z1 : Int} (_ : n1 = iI z1) {n2 : Int32} {z2 : Int} (_ : n2 = iI z2) {n3 : Int32} {z3 : Int} (_ : n3 = iI z3), Sj (fun x : Unit => x) (n_k3 z0 n1 n2 n3) (k3 z0 z1 z2 z3)) (x1 : Nat) {n_x2 : Int32} {x2 : Int} (e_x2 : n_x2 = iI x2) {n_x3 : Int32} {x3 : Int} (e_x3 : n_x3 = iI x3) {n_x4 : Int32} {x4 : Int} (e_x4 : n_x4 = iI x4) {n_x6 : Int32} {x6 : Int} (e_x6 : n_x6 = iI x6) {n_x7 : Int32} {x7 : Int} (e_x7 : n_x7 = iI x7) {n_y0 : Int32} {y0 : Int} (e_y0 : n_y0 = iI y0) : Sj (fun x : Unit => x) (C9_writeChangesOf_65 n_k3 x1 n_x2 n_x3 n_x4 n_x6 n_x7 n_y0) (G9_writeChangesOf_65 k3 x1 x2 x3 x4 x6 x7 y0) := by
  subst e_x2
  subst e_x3
  subst e_x4
  subst e_x6
  subst e_x7
  subst e_y0
  unfold C9_writeChangesOf_65 G9_writeChangesOf_65
  refine sj_b (sj_Xc rfl) fun _ => ?_
  refine sj_b (sj_Xc (eC16 rfl)) fun _ => ?_
  refine sj_b (v_C9_writeSign rfl) fun _ => ?_
  refine sj_b (sj_Xi rfl) fun _ => ?_
  exact (v_C9_writeChangesOf_90 hk3 x1 rfl rfl rfl rfl)
def G9_writeChangesOf_3_st (k3 : Nat → Int → Int → Int → JM Unit) (x1 : Nat) (x2 : Int) (x3 : Int) (x4 : Int) : JM Unit :=
  ib (jE (2, x1)) fun _ =>
  ib (G6_sizeOf x1 x2) fun v1 =>
  ig (R32 v1) <|
  ig (R32 x4) <|
  if v1 < x4 then (jret ()) else (ib (jE (2, x1)) fun _ =>
  ib (G6_slotOf x1 x2 x4) fun v2 =>
  ib (jE (2, x1)) fun _ =>
  ib (G6_fateOf x1 v2) fun v3 =>
  ib (jE (2, x1)) fun _ =>
  ib (G6_insertedAt x1 v2) fun v4 =>
  ig (R32 v3) <|
  if v3 = 0 then ((G9_writeChangesOf_90 k3 x1 x2 x3 x4 v4)) else (ib jXl fun v5 =>
  ig (R32 v5) <|
  ig (R32 x3) <|
  if v5 ≤ x3 then ((G9_writeChangesOf_65 k3 x1 x2 x3 x4 v3 v4 40)) else ((G9_writeChangesOf_65 k3 x1 x2 x3 x4 v3 v4 44))))
theorem v_C9_writeChangesOf_3_st {n_k3 : Nat → Int32 → Int32 → Int32 → CM Unit} {k3 : Nat → Int → Int → Int → JM Unit} (hk3 : ∀ (z0 : Nat) {n1 : Int32} {z1 : Int} (_ : n1 = iI z1) {n2 : Int32} {z2 : Int} (_ : n2 = iI z2) {n3 : Int32} {z3 : Int} (_ : n3 = iI z3), Sj (fun x : Unit => x) (n_k3 z0 n1 n2 n3) (k3 z0 z1 z2 z3)) (x1 : Nat) {n_x2 : Int32} {x2 : Int} (e_x2 : n_x2 = iI x2) {n_x3 : Int32} {x3 : Int} (e_x3 : n_x3 = iI x3) {n_x4 : Int32} {x4 : Int} (e_x4 : n_x4 = iI x4) : Sj (fun x : Unit => x) (C9_writeChangesOf_3_st n_k3 x1 n_x2 n_x3 n_x4) (G9_writeChangesOf_3_st k3 x1 x2 x3 x4) := by
  subst e_x2
  subst e_x3
  subst e_x4
  unfold C9_writeChangesOf_3_st G9_writeChangesOf_3_st
  refine sj_b sj_E fun _ => ?_
  refine sj_b (v_C6_sizeOf x1 rfl) fun v1 => ?_
  refine sj_ig fun h1 => ?_
  refine sj_ig fun h2 => ?_
  refine sj_ite (cLt rfl rfl ⟨h1, h2⟩) ?_ ?_
  · exact sj_rn
  · refine sj_b sj_E fun _ => ?_
    refine sj_b (v_C6_slotOf x1 rfl rfl) fun v2 => ?_
    refine sj_b sj_E fun _ => ?_
    refine sj_b (v_C6_fateOf x1 rfl) fun v3 => ?_
    refine sj_b sj_E fun _ => ?_
    refine sj_b (v_C6_insertedAt x1 rfl) fun v4 => ?_
    refine sj_ig fun h3 => ?_
    refine sj_ite (cEq rfl (eLit 0) ⟨h3, (by decide)⟩) ?_ ?_
    · exact (v_C9_writeChangesOf_90 hk3 x1 rfl rfl rfl rfl)
    · refine sj_b sj_Xl fun v5 => ?_
      refine sj_ig fun h4 => ?_
      refine sj_ig fun h5 => ?_
      refine sj_ite (cLe rfl rfl ⟨h4, h5⟩) ?_ ?_
      · exact (v_C9_writeChangesOf_65 hk3 x1 rfl rfl rfl rfl rfl (eLit 40))
      · exact (v_C9_writeChangesOf_65 hk3 x1 rfl rfl rfl rfl rfl (eLit 44))
def G9_writeChangesOf_3 : Nat → Nat → Int → Int → Int → JM Unit
  | 0 => fun _ _ _ _ => nof
  | n + 1 => fun x1 x2 x3 x4 => G9_writeChangesOf_3_st  (G9_writeChangesOf_3  n) x1 x2 x3 x4
theorem v_C9_writeChangesOf_3  : ∀ (n : Nat) (x1 : Nat) {n_x2 : Int32} {x2 : Int} (e_x2 : n_x2 = iI x2) {n_x3 : Int32} {x3 : Int} (e_x3 : n_x3 = iI x3) {n_x4 : Int32} {x4 : Int} (e_x4 : n_x4 = iI x4), Sj (fun x : Unit => x) (C9_writeChangesOf_3  n x1 n_x2 n_x3 n_x4) (G9_writeChangesOf_3  n x1 x2 x3 x4) := by
  intro n
  induction n with
  | zero => intro x1 n_x2 x2 e_x2 n_x3 x3 e_x3 n_x4 x4 e_x4; exact sj_nf
  | succ n ih => intro x1 n_x2 x2 e_x2 n_x3 x3 e_x3 n_x4 x4 e_x4; exact v_C9_writeChangesOf_3_st  (ih) x1 e_x2 e_x3 e_x4
def G9_writeChangesOf (a1 : Nat) (a2 : Int) (a3 : Int) : JM Unit :=
  (G9_writeChangesOf_3 LFU a1 a2 a3 1)
theorem v_C9_writeChangesOf  (a1 : Nat) {n_a2 : Int32} {a2 : Int} (e_a2 : n_a2 = iI a2) {n_a3 : Int32} {a3 : Int} (e_a3 : n_a3 = iI a3) : Sj (fun x : Unit => x) (C9_writeChangesOf  a1 n_a2 n_a3) (G9_writeChangesOf  a1 a2 a3) := by
  subst e_a2
  subst e_a3
  unfold C9_writeChangesOf G9_writeChangesOf
  exact (v_C9_writeChangesOf_3 LFU a1 rfl rfl (eLit 1))
def G9_writeGroup_101 (x4 : Int) : JM Unit :=
  ib jXl fun v1 =>
  ig (R32 v1) <|
  ig (R32 x4) <|
  if v1 ≤ x4 then (jret ()) else (ib (jXc 41) fun _ =>
  jret ())
theorem v_C9_writeGroup_101  {n_x4 : Int32} {x4 : Int} (e_x4 : n_x4 = iI x4) : Sj (fun x : Unit => x) (C9_writeGroup_101  n_x4) (G9_writeGroup_101  x4) := by
  subst e_x4
  unfold C9_writeGroup_101 G9_writeGroup_101
  refine sj_b sj_Xl fun v1 => ?_
  refine sj_ig fun h1 => ?_
  refine sj_ig fun h2 => ?_
  refine sj_ite (cLe rfl rfl ⟨h1, h2⟩) ?_ ?_
  · exact sj_rn
  · refine sj_b (sj_Xc (eLit 41)) fun _ => ?_
    exact sj_rn
def G9_writeGroup_76_st (k76 : Nat → Int → Int → Int → JM Unit) (x1 : Nat) (x3 : Int) (x4 : Int) (x5 : Int) : JM Unit :=
  ig (R32 x3) <|
  ig (R32 x5) <|
  if x3 < x5 then ((G9_writeGroup_101 x4)) else (ib (jE (2, x1)) fun _ =>
  ib (G6_signOf x1 x5) fun v1 =>
  ib (G9_writeChangesOf x1 v1 x4) fun _ =>
  (k76 x1 x3 x4 (x5 + 1)))
theorem v_C9_writeGroup_76_st {n_k76 : Nat → Int32 → Int32 → Int32 → CM Unit} {k76 : Nat → Int → Int → Int → JM Unit} (hk76 : ∀ (z0 : Nat) {n1 : Int32} {z1 : Int} (_ : n1 = iI z1) {n2 : Int32} {z2 : Int} (_ : n2 = iI z2) {n3 : Int32} {z3 : Int} (_ : n3 = iI z3), Sj (fun x : Unit => x) (n_k76 z0 n1 n2 n3) (k76 z0 z1 z2 z3)) (x1 : Nat) {n_x3 : Int32} {x3 : Int} (e_x3 : n_x3 = iI x3) {n_x4 : Int32} {x4 : Int} (e_x4 : n_x4 = iI x4) {n_x5 : Int32} {x5 : Int} (e_x5 : n_x5 = iI x5) : Sj (fun x : Unit => x) (C9_writeGroup_76_st n_k76 x1 n_x3 n_x4 n_x5) (G9_writeGroup_76_st k76 x1 x3 x4 x5) := by
  subst e_x3
  subst e_x4
  subst e_x5
  unfold C9_writeGroup_76_st G9_writeGroup_76_st
  refine sj_ig fun h1 => ?_
  refine sj_ig fun h2 => ?_
  refine sj_ite (cLt rfl rfl ⟨h1, h2⟩) ?_ ?_
  · exact (v_C9_writeGroup_101 rfl)
  · refine sj_b sj_E fun _ => ?_
    refine sj_b (v_C6_signOf x1 rfl) fun v1 => ?_
    refine sj_b (v_C9_writeChangesOf x1 rfl rfl) fun _ => ?_
    exact (hk76 x1 rfl rfl (eAdd rfl (eLit 1)))
def G9_writeGroup_76 : Nat → Nat → Int → Int → Int → JM Unit
  | 0 => fun _ _ _ _ => nof
  | n + 1 => fun x1 x3 x4 x5 => G9_writeGroup_76_st  (G9_writeGroup_76  n) x1 x3 x4 x5
theorem v_C9_writeGroup_76  : ∀ (n : Nat) (x1 : Nat) {n_x3 : Int32} {x3 : Int} (e_x3 : n_x3 = iI x3) {n_x4 : Int32} {x4 : Int} (e_x4 : n_x4 = iI x4) {n_x5 : Int32} {x5 : Int} (e_x5 : n_x5 = iI x5), Sj (fun x : Unit => x) (C9_writeGroup_76  n x1 n_x3 n_x4 n_x5) (G9_writeGroup_76  n x1 x3 x4 x5) := by
  intro n
  induction n with
  | zero => intro x1 n_x3 x3 e_x3 n_x4 x4 e_x4 n_x5 x5 e_x5; exact sj_nf
  | succ n ih => intro x1 n_x3 x3 e_x3 n_x4 x4 e_x4 n_x5 x5 e_x5; exact v_C9_writeGroup_76_st  (ih) x1 e_x3 e_x4 e_x5
def G9_writeGroup_47 (x1 : Nat) (x2 : Int) (x3 : Int) : JM Unit :=
  ib (jE (2, x1)) fun _ =>
  ib (G6_signOf x1 x3) fun v1 =>
  ib (jE (2, x1)) fun _ =>
  ib (G6_sizeOf x1 v1) fun v2 =>
  ib (jXi v2) fun _ =>
  ib jXl fun v3 =>
  (G9_writeGroup_76 LFU x1 x3 v3 x2)
theorem v_C9_writeGroup_47  (x1 : Nat) {n_x2 : Int32} {x2 : Int} (e_x2 : n_x2 = iI x2) {n_x3 : Int32} {x3 : Int} (e_x3 : n_x3 = iI x3) : Sj (fun x : Unit => x) (C9_writeGroup_47  x1 n_x2 n_x3) (G9_writeGroup_47  x1 x2 x3) := by
  subst e_x2
  subst e_x3
  unfold C9_writeGroup_47 G9_writeGroup_47
  refine sj_b sj_E fun _ => ?_
  refine sj_b (v_C6_signOf x1 rfl) fun v1 => ?_
  refine sj_b sj_E fun _ => ?_
  refine sj_b (v_C6_sizeOf x1 rfl) fun v2 => ?_
  refine sj_b (sj_Xi rfl) fun _ => ?_
  refine sj_b sj_Xl fun v3 => ?_
  exact (v_C9_writeGroup_76 LFU x1 rfl rfl rfl)
def G9_writeGroup_14 (x1 : Nat) (x2 : Int) (x3 : Int) : JM Unit :=
  ib (jE (2, x1)) fun _ =>
  ib (G6_signOf x1 x2) fun v1 =>
  ib (G9_writeSign v1) fun _ =>
  ig (R32 x3) <|
  ig (R32 x2) <|
  if x3 ≤ x2 then ((G9_writeGroup_47 x1 x2 x3)) else (ib (jXc 45) fun _ =>
  ib (jE (2, x1)) fun _ =>
  ib (G6_signOf x1 x3) fun v2 =>
  ib (G9_writeSign v2) fun _ =>
  (G9_writeGroup_47 x1 x2 x3))
theorem v_C9_writeGroup_14  (x1 : Nat) {n_x2 : Int32} {x2 : Int} (e_x2 : n_x2 = iI x2) {n_x3 : Int32} {x3 : Int} (e_x3 : n_x3 = iI x3) : Sj (fun x : Unit => x) (C9_writeGroup_14  x1 n_x2 n_x3) (G9_writeGroup_14  x1 x2 x3) := by
  subst e_x2
  subst e_x3
  unfold C9_writeGroup_14 G9_writeGroup_14
  refine sj_b sj_E fun _ => ?_
  refine sj_b (v_C6_signOf x1 rfl) fun v1 => ?_
  refine sj_b (v_C9_writeSign rfl) fun _ => ?_
  refine sj_ig fun h1 => ?_
  refine sj_ig fun h2 => ?_
  refine sj_ite (cLe rfl rfl ⟨h1, h2⟩) ?_ ?_
  · exact (v_C9_writeGroup_47 x1 rfl rfl)
  · refine sj_b (sj_Xc (eLit 45)) fun _ => ?_
    refine sj_b sj_E fun _ => ?_
    refine sj_b (v_C6_signOf x1 rfl) fun v2 => ?_
    refine sj_b (v_C9_writeSign rfl) fun _ => ?_
    exact (v_C9_writeGroup_47 x1 rfl rfl)
def G9_writeGroup (a1 : Nat) (a2 : Int) (a3 : Int) : JM Unit :=
  ig (R32 a2) <|
  if a2 ≤ 0 then ((G9_writeGroup_14 a1 a2 a3)) else (ib (jXc 32) fun _ =>
  (G9_writeGroup_14 a1 a2 a3))
theorem v_C9_writeGroup  (a1 : Nat) {n_a2 : Int32} {a2 : Int} (e_a2 : n_a2 = iI a2) {n_a3 : Int32} {a3 : Int} (e_a3 : n_a3 = iI a3) : Sj (fun x : Unit => x) (C9_writeGroup  a1 n_a2 n_a3) (G9_writeGroup  a1 a2 a3) := by
  subst e_a2
  subst e_a3
  unfold C9_writeGroup G9_writeGroup
  refine sj_ig fun h1 => ?_
  refine sj_ite (cLe rfl (eLit 0) ⟨h1, (by decide)⟩) ?_ ?_
  · exact (v_C9_writeGroup_14 a1 rfl rfl)
  · refine sj_b (sj_Xc (eLit 32)) fun _ => ?_
    exact (v_C9_writeGroup_14 a1 rfl rfl)
def G6_copyFrom (this : Nat) (a1 : Nat) : JM Unit :=
  ib (jE (2, a1)) fun _ =>
  ib (jE (2, this)) fun _ =>
  ib (jCp 3 a1 3 this 71) fun _ =>
  ib (jE (2, a1)) fun _ =>
  ib (jE (2, this)) fun _ =>
  ib (jCp 4 a1 4 this 71) fun _ =>
  ib (jE (2, a1)) fun _ =>
  ib (jE (2, this)) fun _ =>
  ib (jCp 5 a1 5 this 852) fun _ =>
  ib (jE (2, a1)) fun _ =>
  ib (jE (2, this)) fun _ =>
  ib (jCp 6 a1 6 this 852) fun _ =>
  ib (jG 6 a1) fun v1 =>
  ib (jP 6 this v1) fun _ =>
  ib (jG 7 a1) fun v2 =>
  ib (jP 7 this v2) fun _ =>
  jret ()
theorem v_C6_copyFrom  (this : Nat) (a1 : Nat) : Sj (fun x : Unit => x) (C6_copyFrom  this a1) (G6_copyFrom  this a1) := by
  unfold C6_copyFrom G6_copyFrom
  refine sj_b sj_E fun _ => ?_
  refine sj_b sj_E fun _ => ?_
  refine sj_b (sj_Cp (eLit 71)) fun _ => ?_
  refine sj_b sj_E fun _ => ?_
  refine sj_b sj_E fun _ => ?_
  refine sj_b (sj_Cp (eLit 71)) fun _ => ?_
  refine sj_b sj_E fun _ => ?_
  refine sj_b sj_E fun _ => ?_
  refine sj_b (sj_Cp (eLit 852)) fun _ => ?_
  refine sj_b sj_E fun _ => ?_
  refine sj_b sj_E fun _ => ?_
  refine sj_b (sj_Cp (eLit 852)) fun _ => ?_
  refine sj_b sj_G fun v1 => ?_
  refine sj_b (sj_P rfl) fun _ => ?_
  refine sj_b sj_G fun v2 => ?_
  refine sj_b (sj_P rfl) fun _ => ?_
  exact sj_rn
def G0_leafCount (this : Nat) : JM Int :=
  ib (jE (3, this)) fun _ =>
  ib (jG 1 (100 + (4 * this))) fun v1 =>
  jret v1
theorem v_C0_leafCount  (this : Nat) : Sj iI (C0_leafCount  this) (G0_leafCount  this) := by
  unfold C0_leafCount G0_leafCount
  refine sj_b sj_E fun _ => ?_
  refine sj_b sj_G fun v1 => ?_
  exact sj_re rfl
def G6_isCut (this : Nat) (a1 : Int) : JM Int :=
  ib (jE (2, this)) fun _ =>
  ib (G6_fateOf this a1) fun v1 =>
  ig (R32 v1) <|
  if v1 = 45 then (jret 1) else (jret 0)
theorem v_C6_isCut  (this : Nat) {n_a1 : Int32} {a1 : Int} (e_a1 : n_a1 = iI a1) : Sj iI (C6_isCut  this n_a1) (G6_isCut  this a1) := by
  subst e_a1
  unfold C6_isCut G6_isCut
  refine sj_b sj_E fun _ => ?_
  refine sj_b (v_C6_fateOf this rfl) fun v1 => ?_
  refine sj_ig fun h1 => ?_
  refine sj_ite (cEq rfl (eLit 45) ⟨h1, (by decide)⟩) ?_ ?_
  · exact sj_re (eLit 1)
  · exact sj_re (eLit 0)
def G6_isReplaced (this : Nat) (a1 : Int) : JM Int :=
  ib (jE (2, this)) fun _ =>
  ib (G6_fateOf this a1) fun v1 =>
  ig (R32 v1) <|
  if v1 = 61 then (jret 1) else (jret 0)
theorem v_C6_isReplaced  (this : Nat) {n_a1 : Int32} {a1 : Int} (e_a1 : n_a1 = iI a1) : Sj iI (C6_isReplaced  this n_a1) (G6_isReplaced  this a1) := by
  subst e_a1
  unfold C6_isReplaced G6_isReplaced
  refine sj_b sj_E fun _ => ?_
  refine sj_b (v_C6_fateOf this rfl) fun v1 => ?_
  refine sj_ig fun h1 => ?_
  refine sj_ite (cEq rfl (eLit 61) ⟨h1, (by decide)⟩) ?_ ?_
  · exact sj_re (eLit 1)
  · exact sj_re (eLit 0)
def G0_addLeaf (this : Nat) (a1 : Int) (a2 : Int) (a3 : Int) (a4 : Int) : JM Unit :=
  ib (jE (3, this)) fun _ =>
  ib (jE (1, (100 + (4 * this)))) fun _ =>
  ib (G8_add (100 + (4 * this)) a1) fun v1 =>
  ib (jE (3, this)) fun _ =>
  ib (jE (1, (101 + (4 * this)))) fun _ =>
  ib (G8_add (101 + (4 * this)) a2) fun v2 =>
  ib (jE (3, this)) fun _ =>
  ib (jE (1, (102 + (4 * this)))) fun _ =>
  ib (G8_add (102 + (4 * this)) a3) fun v3 =>
  ib (jE (3, this)) fun _ =>
  ib (jE (1, (103 + (4 * this)))) fun _ =>
  ib (G8_add (103 + (4 * this)) a4) fun v4 =>
  jret ()
theorem v_C0_addLeaf  (this : Nat) {n_a1 : Int32} {a1 : Int} (e_a1 : n_a1 = iI a1) {n_a2 : Int32} {a2 : Int} (e_a2 : n_a2 = iI a2) {n_a3 : Int32} {a3 : Int} (e_a3 : n_a3 = iI a3) {n_a4 : Int32} {a4 : Int} (e_a4 : n_a4 = iI a4) : Sj (fun x : Unit => x) (C0_addLeaf  this n_a1 n_a2 n_a3 n_a4) (G0_addLeaf  this a1 a2 a3 a4) := by
  subst e_a1
  subst e_a2
  subst e_a3
  subst e_a4
  unfold C0_addLeaf G0_addLeaf
  refine sj_b sj_E fun _ => ?_
  refine sj_b sj_E fun _ => ?_
  refine sj_b (v_C8_add (100 + (4 * this)) rfl) fun v1 => ?_
  refine sj_b sj_E fun _ => ?_
  refine sj_b sj_E fun _ => ?_
  refine sj_b (v_C8_add (101 + (4 * this)) rfl) fun v2 => ?_
  refine sj_b sj_E fun _ => ?_
  refine sj_b sj_E fun _ => ?_
  refine sj_b (v_C8_add (102 + (4 * this)) rfl) fun v3 => ?_
  refine sj_b sj_E fun _ => ?_
  refine sj_b sj_E fun _ => ?_
  refine sj_b (v_C8_add (103 + (4 * this)) rfl) fun v4 => ?_
  exact sj_rn
def G0_setOut_128 (k11 : Nat → Int → Int → Int → JM Unit) (this : Nat) (x1 : Int) (x2 : Int) (x3 : Int) : JM Unit :=
  (k11 this x1 x2 (x3 + 1))
theorem v_C0_setOut_128 {n_k11 : Nat → Int32 → Int32 → Int32 → CM Unit} {k11 : Nat → Int → Int → Int → JM Unit} (hk11 : ∀ (z0 : Nat) {n1 : Int32} {z1 : Int} (_ : n1 = iI z1) {n2 : Int32} {z2 : Int} (_ : n2 = iI z2) {n3 : Int32} {z3 : Int} (_ : n3 = iI z3), Sj (fun x : Unit => x) (n_k11 z0 n1 n2 n3) (k11 z0 z1 z2 z3)) (this : Nat) {n_x1 : Int32} {x1 : Int} (e_x1 : n_x1 = iI x1) {n_x2 : Int32} {x2 : Int} (e_x2 : n_x2 = iI x2) {n_x3 : Int32} {x3 : Int} (e_x3 : n_x3 = iI x3) : Sj (fun x : Unit => x) (C0_setOut_128 n_k11 this n_x1 n_x2 n_x3) (G0_setOut_128 k11 this x1 x2 x3) := by
  subst e_x1
  subst e_x2
  subst e_x3
  unfold C0_setOut_128 G0_setOut_128
  exact (hk11 this rfl rfl (eAdd rfl (eLit 1)))
def G0_setOut_99_st (k11 : Nat → Int → Int → Int → JM Unit) (k99 : Nat → Int → Int → Int → Int → Int → JM Unit) (this : Nat) (x1 : Int) (x2 : Int) (x3 : Int) (x4 : Int) (x5 : Int) : JM Unit :=
  ib (jE (3, this)) fun _ =>
  ib (jE (2, (this + 1))) fun _ =>
  ib (G6_insertedAt (this + 1) x4) fun v1 =>
  ig (R32 v1) <|
  ig (R32 x5) <|
  if v1 < x5 then ((G0_setOut_128 k11 this x1 x2 x3)) else (ib (jE (3, this)) fun _ =>
  ib (G0_addLeaf this x1 x3 2 x5) fun _ =>
  (k99 this x1 x2 x3 x4 (x5 + 1)))
theorem v_C0_setOut_99_st {n_k11 : Nat → Int32 → Int32 → Int32 → CM Unit} {k11 : Nat → Int → Int → Int → JM Unit} (hk11 : ∀ (z0 : Nat) {n1 : Int32} {z1 : Int} (_ : n1 = iI z1) {n2 : Int32} {z2 : Int} (_ : n2 = iI z2) {n3 : Int32} {z3 : Int} (_ : n3 = iI z3), Sj (fun x : Unit => x) (n_k11 z0 n1 n2 n3) (k11 z0 z1 z2 z3)) {n_k99 : Nat → Int32 → Int32 → Int32 → Int32 → Int32 → CM Unit} {k99 : Nat → Int → Int → Int → Int → Int → JM Unit} (hk99 : ∀ (z0 : Nat) {n1 : Int32} {z1 : Int} (_ : n1 = iI z1) {n2 : Int32} {z2 : Int} (_ : n2 = iI z2) {n3 : Int32} {z3 : Int} (_ : n3 = iI z3) {n4 : Int32} {z4 : Int} (_ : n4 = iI z4) {n5 : Int32} {z5 : Int} (_ : n5 = iI z5), Sj (fun x : Unit => x) (n_k99 z0 n1 n2 n3 n4 n5) (k99 z0 z1 z2 z3 z4 z5)) (this : Nat) {n_x1 : Int32} {x1 : Int} (e_x1 : n_x1 = iI x1) {n_x2 : Int32} {x2 : Int} (e_x2 : n_x2 = iI x2) {n_x3 : Int32} {x3 : Int} (e_x3 : n_x3 = iI x3) {n_x4 : Int32} {x4 : Int} (e_x4 : n_x4 = iI x4) {n_x5 : Int32} {x5 : Int} (e_x5 : n_x5 = iI x5) : Sj (fun x : Unit => x) (C0_setOut_99_st n_k11 n_k99 this n_x1 n_x2 n_x3 n_x4 n_x5) (G0_setOut_99_st k11 k99 this x1 x2 x3 x4 x5) := by
  subst e_x1
  subst e_x2
  subst e_x3
  subst e_x4
  subst e_x5
  unfold C0_setOut_99_st G0_setOut_99_st
  refine sj_b sj_E fun _ => ?_
  refine sj_b sj_E fun _ => ?_
  refine sj_b (v_C6_insertedAt (this + 1) rfl) fun v1 => ?_
  refine sj_ig fun h1 => ?_
  refine sj_ig fun h2 => ?_
  refine sj_ite (cLt rfl rfl ⟨h1, h2⟩) ?_ ?_
  · exact (v_C0_setOut_128 hk11 this rfl rfl rfl)
  · refine sj_b sj_E fun _ => ?_
    refine sj_b (v_C0_addLeaf this rfl rfl (eLit 2) rfl) fun _ => ?_
    exact (hk99 this rfl rfl rfl rfl (eAdd rfl (eLit 1)))
def G0_setOut_99 (k11 : Nat → Int → Int → Int → JM Unit) : Nat → Nat → Int → Int → Int → Int → Int → JM Unit
  | 0 => fun _ _ _ _ _ _ => nof
  | n + 1 => fun this x1 x2 x3 x4 x5 => G0_setOut_99_st k11 (G0_setOut_99 k11 n) this x1 x2 x3 x4 x5
theorem v_C0_setOut_99 {n_k11 : Nat → Int32 → Int32 → Int32 → CM Unit} {k11 : Nat → Int → Int → Int → JM Unit} (hk11 : ∀ (z0 : Nat) {n1 : Int32} {z1 : Int} (_ : n1 = iI z1) {n2 : Int32} {z2 : Int} (_ : n2 = iI z2) {n3 : Int32} {z3 : Int} (_ : n3 = iI z3), Sj (fun x : Unit => x) (n_k11 z0 n1 n2 n3) (k11 z0 z1 z2 z3)) : ∀ (n : Nat) (this : Nat) {n_x1 : Int32} {x1 : Int} (e_x1 : n_x1 = iI x1) {n_x2 : Int32} {x2 : Int} (e_x2 : n_x2 = iI x2) {n_x3 : Int32} {x3 : Int} (e_x3 : n_x3 = iI x3) {n_x4 : Int32} {x4 : Int} (e_x4 : n_x4 = iI x4) {n_x5 : Int32} {x5 : Int} (e_x5 : n_x5 = iI x5), Sj (fun x : Unit => x) (C0_setOut_99 n_k11 n this n_x1 n_x2 n_x3 n_x4 n_x5) (G0_setOut_99 k11 n this x1 x2 x3 x4 x5) := by
  intro n
  induction n with
  | zero => intro this n_x1 x1 e_x1 n_x2 x2 e_x2 n_x3 x3 e_x3 n_x4 x4 e_x4 n_x5 x5 e_x5; exact sj_nf
  | succ n ih => intro this n_x1 x1 e_x1 n_x2 x2 e_x2 n_x3 x3 e_x3 n_x4 x4 e_x4 n_x5 x5 e_x5; exact v_C0_setOut_99_st hk11 (ih) this e_x1 e_x2 e_x3 e_x4 e_x5
def G0_setOut_96 (k11 : Nat → Int → Int → Int → JM Unit) (this : Nat) (x1 : Int) (x2 : Int) (x3 : Int) (x4 : Int) : JM Unit :=
  (G0_setOut_99 k11 LFU this x1 x2 x3 x4 1)
theorem v_C0_setOut_96 {n_k11 : Nat → Int32 → Int32 → Int32 → CM Unit} {k11 : Nat → Int → Int → Int → JM Unit} (hk11 : ∀ (z0 : Nat) {n1 : Int32} {z1 : Int} (_ : n1 = iI z1) {n2 : Int32} {z2 : Int} (_ : n2 = iI z2) {n3 : Int32} {z3 : Int} (_ : n3 = iI z3), Sj (fun x : Unit => x) (n_k11 z0 n1 n2 n3) (k11 z0 z1 z2 z3)) (this : Nat) {n_x1 : Int32} {x1 : Int} (e_x1 : n_x1 = iI x1) {n_x2 : Int32} {x2 : Int} (e_x2 : n_x2 = iI x2) {n_x3 : Int32} {x3 : Int} (e_x3 : n_x3 = iI x3) {n_x4 : Int32} {x4 : Int} (e_x4 : n_x4 = iI x4) : Sj (fun x : Unit => x) (C0_setOut_96 n_k11 this n_x1 n_x2 n_x3 n_x4) (G0_setOut_96 k11 this x1 x2 x3 x4) := by
  subst e_x1
  subst e_x2
  subst e_x3
  subst e_x4
  unfold C0_setOut_96 G0_setOut_96
  exact (v_C0_setOut_99 hk11 LFU this rfl rfl rfl rfl (eLit 1))
def G0_setOut_92 (k11 : Nat → Int → Int → Int → JM Unit) (this : Nat) (x1 : Int) (x2 : Int) (x3 : Int) (x4 : Int) (y0 : Int) (y1 : Int) (y2 : Int) : JM Unit :=
  ib (jE (3, this)) fun _ =>
  ib (G0_addLeaf this y2 y1 y0 0) fun _ =>
  (G0_setOut_96 k11 this x1 x2 x3 x4)
theorem v_C0_setOut_92 {n_k11 : Nat → Int32 → Int32 → Int32 → CM Unit} {k11 : Nat → Int → Int → Int → JM Unit} (hk11 : ∀ (z0 : Nat) {n1 : Int32} {z1 : Int} (_ : n1 = iI z1) {n2 : Int32} {z2 : Int} (_ : n2 = iI z2) {n3 : Int32} {z3 : Int} (_ : n3 = iI z3), Sj (fun x : Unit => x) (n_k11 z0 n1 n2 n3) (k11 z0 z1 z2 z3)) (this : Nat) {n_x1 : Int32} {x1 : Int} (e_x1 : n_x1 = iI x1) {n_x2 : Int32} {x2 : Int} (e_x2 : n_x2 = iI x2) {n_x3 : Int32} {x3 : Int} (e_x3 : n_x3 = iI x3) {n_x4 : Int32} {x4 : Int} (e_x4 : n_x4 = iI x4) {n_y0 : Int32} {y0 : Int} (e_y0 : n_y0 = iI y0) {n_y1 : Int32} {y1 : Int} (e_y1 : n_y1 = iI y1) {n_y2 : Int32} {y2 : Int} (e_y2 : n_y2 = iI y2) : Sj (fun x : Unit => x) (C0_setOut_92 n_k11 this n_x1 n_x2 n_x3 n_x4 n_y0 n_y1 n_y2) (G0_setOut_92 k11 this x1 x2 x3 x4 y0 y1 y2) := by
  subst e_x1
  subst e_x2
  subst e_x3
  subst e_x4
  subst e_y0
  subst e_y1
  subst e_y2
  unfold C0_setOut_92 G0_setOut_92
  refine sj_b sj_E fun _ => ?_
  refine sj_b (v_C0_addLeaf this rfl rfl rfl (eLit 0)) fun _ => ?_
  exact (v_C0_setOut_96 hk11 this rfl rfl rfl rfl)
def G0_setOut_60 (k11 : Nat → Int → Int → Int → JM Unit) (this : Nat) (x1 : Int) (x2 : Int) (x3 : Int) (x4 : Int) : JM Unit :=
  ib (jE (3, this)) fun _ =>
  ib (jE (2, (this + 1))) fun _ =>
  ib (G6_isCut (this + 1) x4) fun v1 =>
  ig (R32 v1) <|
  if v1 = 0 then (ib (jE (3, this)) fun _ =>
  ib (jE (2, (this + 1))) fun _ =>
  ib (G6_isReplaced (this + 1) x4) fun v2 =>
  ig (R32 v2) <|
  if v2 = 0 then ((G0_setOut_92 k11 this x1 x2 x3 x4 0 x3 x1)) else ((G0_setOut_92 k11 this x1 x2 x3 x4 1 x3 x1))) else ((G0_setOut_96 k11 this x1 x2 x3 x4))
theorem v_C0_setOut_60 {n_k11 : Nat → Int32 → Int32 → Int32 → CM Unit} {k11 : Nat → Int → Int → Int → JM Unit} (hk11 : ∀ (z0 : Nat) {n1 : Int32} {z1 : Int} (_ : n1 = iI z1) {n2 : Int32} {z2 : Int} (_ : n2 = iI z2) {n3 : Int32} {z3 : Int} (_ : n3 = iI z3), Sj (fun x : Unit => x) (n_k11 z0 n1 n2 n3) (k11 z0 z1 z2 z3)) (this : Nat) {n_x1 : Int32} {x1 : Int} (e_x1 : n_x1 = iI x1) {n_x2 : Int32} {x2 : Int} (e_x2 : n_x2 = iI x2) {n_x3 : Int32} {x3 : Int} (e_x3 : n_x3 = iI x3) {n_x4 : Int32} {x4 : Int} (e_x4 : n_x4 = iI x4) : Sj (fun x : Unit => x) (C0_setOut_60 n_k11 this n_x1 n_x2 n_x3 n_x4) (G0_setOut_60 k11 this x1 x2 x3 x4) := by
  subst e_x1
  subst e_x2
  subst e_x3
  subst e_x4
  unfold C0_setOut_60 G0_setOut_60
  refine sj_b sj_E fun _ => ?_
  refine sj_b sj_E fun _ => ?_
  refine sj_b (v_C6_isCut (this + 1) rfl) fun v1 => ?_
  refine sj_ig fun h1 => ?_
  refine sj_ite (cEq rfl (eLit 0) ⟨h1, (by decide)⟩) ?_ ?_
  · refine sj_b sj_E fun _ => ?_
    refine sj_b sj_E fun _ => ?_
    refine sj_b (v_C6_isReplaced (this + 1) rfl) fun v2 => ?_
    refine sj_ig fun h2 => ?_
    refine sj_ite (cEq rfl (eLit 0) ⟨h2, (by decide)⟩) ?_ ?_
    · exact (v_C0_setOut_92 hk11 this rfl rfl rfl rfl (eLit 0) rfl rfl)
    · exact (v_C0_setOut_92 hk11 this rfl rfl rfl rfl (eLit 1) rfl rfl)
  · exact (v_C0_setOut_96 hk11 this rfl rfl rfl rfl)
def G0_setOut_11_st (k11 : Nat → Int → Int → Int → JM Unit) (this : Nat) (x1 : Int) (x2 : Int) (x3 : Int) : JM Unit :=
  ib (jE (3, this)) fun _ =>
  ib (jE (2, (this + 1))) fun _ =>
  ib (G6_sizeOf (this + 1) x2) fun v1 =>
  ig (R32 v1) <|
  ig (R32 x3) <|
  if v1 < x3 then (jret ()) else (ib (jE (3, this)) fun _ =>
  ib (jE (2, (this + 1))) fun _ =>
  ib (G6_slotOf (this + 1) x2 x3) fun v2 =>
  ig (R32 v2) <|
  if v2 < 0 then ((G0_setOut_60 k11 this x1 x2 x3 v2)) else (ib (jE (3, this)) fun _ =>
  ib (jN 7 this) fun v3 =>
  ig (R32 v3) <|
  if v3 ≤ v2 then ((G0_setOut_60 k11 this x1 x2 x3 v2)) else (ib (jE (3, this)) fun _ =>
  ib (jE (3, this)) fun _ =>
  ib (G0_leafCount this) fun v4 =>
  ib (jS 7 this v2 v4) fun _ =>
  (G0_setOut_60 k11 this x1 x2 x3 v2))))
theorem v_C0_setOut_11_st {n_k11 : Nat → Int32 → Int32 → Int32 → CM Unit} {k11 : Nat → Int → Int → Int → JM Unit} (hk11 : ∀ (z0 : Nat) {n1 : Int32} {z1 : Int} (_ : n1 = iI z1) {n2 : Int32} {z2 : Int} (_ : n2 = iI z2) {n3 : Int32} {z3 : Int} (_ : n3 = iI z3), Sj (fun x : Unit => x) (n_k11 z0 n1 n2 n3) (k11 z0 z1 z2 z3)) (this : Nat) {n_x1 : Int32} {x1 : Int} (e_x1 : n_x1 = iI x1) {n_x2 : Int32} {x2 : Int} (e_x2 : n_x2 = iI x2) {n_x3 : Int32} {x3 : Int} (e_x3 : n_x3 = iI x3) : Sj (fun x : Unit => x) (C0_setOut_11_st n_k11 this n_x1 n_x2 n_x3) (G0_setOut_11_st k11 this x1 x2 x3) := by
  subst e_x1
  subst e_x2
  subst e_x3
  unfold C0_setOut_11_st G0_setOut_11_st
  refine sj_b sj_E fun _ => ?_
  refine sj_b sj_E fun _ => ?_
  refine sj_b (v_C6_sizeOf (this + 1) rfl) fun v1 => ?_
  refine sj_ig fun h1 => ?_
  refine sj_ig fun h2 => ?_
  refine sj_ite (cLt rfl rfl ⟨h1, h2⟩) ?_ ?_
  · exact sj_rn
  · refine sj_b sj_E fun _ => ?_
    refine sj_b sj_E fun _ => ?_
    refine sj_b (v_C6_slotOf (this + 1) rfl rfl) fun v2 => ?_
    refine sj_ig fun h3 => ?_
    refine sj_ite (cLt rfl (eLit 0) ⟨h3, (by decide)⟩) ?_ ?_
    · exact (v_C0_setOut_60 hk11 this rfl rfl rfl rfl)
    · refine sj_b sj_E fun _ => ?_
      refine sj_b sj_N fun v3 => ?_
      refine sj_ig fun h4 => ?_
      refine sj_ite (cLe rfl rfl ⟨h4, h3⟩) ?_ ?_
      · exact (v_C0_setOut_60 hk11 this rfl rfl rfl rfl)
      · refine sj_b sj_E fun _ => ?_
        refine sj_b sj_E fun _ => ?_
        refine sj_b (v_C0_leafCount this) fun v4 => ?_
        refine sj_b (sj_S rfl rfl) fun _ => ?_
        exact (v_C0_setOut_60 hk11 this rfl rfl rfl rfl)
def G0_setOut_11 : Nat → Nat → Int → Int → Int → JM Unit
  | 0 => fun _ _ _ _ => nof
  | n + 1 => fun this x1 x2 x3 => G0_setOut_11_st  (G0_setOut_11  n) this x1 x2 x3
theorem v_C0_setOut_11  : ∀ (n : Nat) (this : Nat) {n_x1 : Int32} {x1 : Int} (e_x1 : n_x1 = iI x1) {n_x2 : Int32} {x2 : Int} (e_x2 : n_x2 = iI x2) {n_x3 : Int32} {x3 : Int} (e_x3 : n_x3 = iI x3), Sj (fun x : Unit => x) (C0_setOut_11  n this n_x1 n_x2 n_x3) (G0_setOut_11  n this x1 x2 x3) := by
  intro n
  induction n with
  | zero => intro this n_x1 x1 e_x1 n_x2 x2 e_x2 n_x3 x3 e_x3; exact sj_nf
  | succ n ih => intro this n_x1 x1 e_x1 n_x2 x2 e_x2 n_x3 x3 e_x3; exact v_C0_setOut_11_st  (ih) this e_x1 e_x2 e_x3
def G0_setOut (this : Nat) (a1 : Int) : JM Unit :=
  ib (jE (3, this)) fun _ =>
  ib (jE (2, (this + 1))) fun _ =>
  ib (G6_signOf (this + 1) a1) fun v1 =>
  (G0_setOut_11 LFU this a1 v1 1)
theorem v_C0_setOut  (this : Nat) {n_a1 : Int32} {a1 : Int} (e_a1 : n_a1 = iI a1) : Sj (fun x : Unit => x) (C0_setOut  this n_a1) (G0_setOut  this a1) := by
  subst e_a1
  unfold C0_setOut G0_setOut
  refine sj_b sj_E fun _ => ?_
  refine sj_b sj_E fun _ => ?_
  refine sj_b (v_C6_signOf (this + 1) rfl) fun v1 => ?_
  exact (v_C0_setOut_11 LFU this rfl rfl (eLit 1))
def G0_init_95_st (k95 : Nat → Int → JM Unit) (this : Nat) (x3 : Int) : JM Unit :=
  ib (jE (3, this)) fun _ =>
  ib (jG 6 (this + 1)) fun v1 =>
  ig (R32 v1) <|
  ig (R32 x3) <|
  if v1 ≤ x3 then (jret ()) else (ib (jE (3, this)) fun _ =>
  ib (G0_setOut this x3) fun _ =>
  (k95 this (x3 + 1)))
theorem v_C0_init_95_st {n_k95 : Nat → Int32 → CM Unit} {k95 : Nat → Int → JM Unit} (hk95 : ∀ (z0 : Nat) {n1 : Int32} {z1 : Int} (_ : n1 = iI z1), Sj (fun x : Unit => x) (n_k95 z0 n1) (k95 z0 z1)) (this : Nat) {n_x3 : Int32} {x3 : Int} (e_x3 : n_x3 = iI x3) : Sj (fun x : Unit => x) (C0_init_95_st n_k95 this n_x3) (G0_init_95_st k95 this x3) := by
  subst e_x3
  unfold C0_init_95_st G0_init_95_st
  refine sj_b sj_E fun _ => ?_
  refine sj_b sj_G fun v1 => ?_
  refine sj_ig fun h1 => ?_
  refine sj_ig fun h2 => ?_
  refine sj_ite (cLe rfl rfl ⟨h1, h2⟩) ?_ ?_
  · exact sj_rn
  · refine sj_b sj_E fun _ => ?_
    refine sj_b (v_C0_setOut this rfl) fun _ => ?_
    exact (hk95 this (eAdd rfl (eLit 1)))
def G0_init_95 : Nat → Nat → Int → JM Unit
  | 0 => fun _ _ => nof
  | n + 1 => fun this x3 => G0_init_95_st  (G0_init_95  n) this x3
theorem v_C0_init_95  : ∀ (n : Nat) (this : Nat) {n_x3 : Int32} {x3 : Int} (e_x3 : n_x3 = iI x3), Sj (fun x : Unit => x) (C0_init_95  n this n_x3) (G0_init_95  n this x3) := by
  intro n
  induction n with
  | zero => intro this n_x3 x3 e_x3; exact sj_nf
  | succ n ih => intro this n_x3 x3 e_x3; exact v_C0_init_95_st  (ih) this e_x3
def G11_bookAt (a1 : Int) : JM (Option Nat) :=
  ig (R32 a1) <|
  if a1 < 0 then (jret none) else (ib (jG 8 0) fun v1 =>
  ig (R32 v1) <|
  if v1 ≤ a1 then (jret none) else (if a1 < 8 then (ib (jBk a1) fun v2 =>
  jret v2) else (jret none)))
theorem v_C11_bookAt  {n_a1 : Int32} {a1 : Int} (e_a1 : n_a1 = iI a1) : Sj (fun x : Option Nat => x) (C11_bookAt  n_a1) (G11_bookAt  a1) := by
  subst e_a1
  unfold C11_bookAt G11_bookAt
  refine sj_ig fun h1 => ?_
  refine sj_ite (cLt rfl (eLit 0) ⟨h1, (by decide)⟩) ?_ ?_
  · exact sj_rn
  · refine sj_b sj_G fun v1 => ?_
    refine sj_ig fun h2 => ?_
    refine sj_ite (cLe rfl rfl ⟨h2, h1⟩) ?_ ?_
    · exact sj_rn
    · refine sj_ite (cLt rfl (eLit 8) ⟨h1, (by decide)⟩) ?_ ?_
      · refine sj_b (sj_Bk rfl) fun v2 => ?_
        exact sj_rn
      · exact sj_rn
def G7_readsChanges : JM Int :=
  ib G7_begin fun _ =>
  ib G7_readsChangeList fun v1 =>
  ig (R32 v1) <|
  if v1 = 0 then (jret 0) else (ib (G7_takes 0) fun v2 =>
  ig (R32 v2) <|
  if v2 = 0 then (jret 0) else (jret 1))
theorem v_C7_readsChanges  : Sj iI (C7_readsChanges  ) (G7_readsChanges  ) := by
  unfold C7_readsChanges G7_readsChanges
  refine sj_b v_C7_begin fun _ => ?_
  refine sj_b v_C7_readsChangeList fun v1 => ?_
  refine sj_ig fun h1 => ?_
  refine sj_ite (cEq rfl (eLit 0) ⟨h1, (by decide)⟩) ?_ ?_
  · exact sj_re (eLit 0)
  · refine sj_b (v_C7_takes (eLit 0)) fun v2 => ?_
    refine sj_ig fun h2 => ?_
    refine sj_ite (cEq rfl (eLit 0) ⟨h2, (by decide)⟩) ?_ ?_
    · exact sj_re (eLit 0)
    · exact sj_re (eLit 1)
def G11_draftChanges (a1 : Nat) : JM Int :=
  ib (jE (3, a1)) fun _ =>
  ib (G6_copyFrom 0 (a1 + 1)) fun _ =>
  ib G5_amount fun v1 =>
  ib (G3_ofChanges 0 v1 0) fun v2 =>
  ib (jP 10 0 v2) fun _ =>
  ib G11_refusalOfDraft fun v3 =>
  jret v3
theorem v_C11_draftChanges  (a1 : Nat) : Sj iI (C11_draftChanges  a1) (G11_draftChanges  a1) := by
  unfold C11_draftChanges G11_draftChanges
  refine sj_b sj_E fun _ => ?_
  refine sj_E0 (fun _ => rfl) ?_
  refine sj_b (v_C6_copyFrom 0 (a1 + 1)) fun _ => ?_
  refine sj_b v_C5_amount fun v1 => ?_
  refine sj_b (v_C3_ofChanges (eLit 0) rfl 0) fun v2 => ?_
  refine sj_b (sj_P rfl) fun _ => ?_
  refine sj_b v_C11_refusalOfDraft fun v3 => ?_
  exact sj_re rfl
def G7_readsOneName_90 (x1 : Int) (y0 : Int) (y1 : Nat) : JM Int :=
  ib (jE (1, y1)) fun _ =>
  ib (G8_add y1 y0) fun v1 =>
  ib (G8_add 8 x1) fun v2 =>
  jret 1
theorem v_C7_readsOneName_90  {n_x1 : Int32} {x1 : Int} (e_x1 : n_x1 = iI x1) {n_y0 : Int32} {y0 : Int} (e_y0 : n_y0 = iI y0) (y1 : Nat) : Sj iI (C7_readsOneName_90  n_x1 n_y0 y1) (G7_readsOneName_90  x1 y0 y1) := by
  subst e_x1
  subst e_y0
  unfold C7_readsOneName_90 G7_readsOneName_90
  refine sj_b sj_E fun _ => ?_
  refine sj_b (v_C8_add y1 rfl) fun v1 => ?_
  refine sj_E0 (fun _ => rfl) ?_
  refine sj_b (v_C8_add 8 rfl) fun v2 => ?_
  exact sj_re (eLit 1)
def G7_readsOneName_71 (x1 : Int) (x2 : Int) : JM Int :=
  ig (R32 x2) <|
  if x2 = 0 then ((G7_readsOneName_90 x1 (-1) 11)) else (ib (jG 4 0) fun v1 =>
  (G7_readsOneName_90 x1 v1 11))
theorem v_C7_readsOneName_71  {n_x1 : Int32} {x1 : Int} (e_x1 : n_x1 = iI x1) {n_x2 : Int32} {x2 : Int} (e_x2 : n_x2 = iI x2) : Sj iI (C7_readsOneName_71  n_x1 n_x2) (G7_readsOneName_71  x1 x2) := by
  subst e_x1
  subst e_x2
  unfold C7_readsOneName_71 G7_readsOneName_71
  refine sj_ig fun h1 => ?_
  refine sj_ite (cEq rfl (eLit 0) ⟨h1, (by decide)⟩) ?_ ?_
  · exact (v_C7_readsOneName_90 rfl (eLn 1) 11)
  · refine sj_b sj_G fun v1 => ?_
    exact (v_C7_readsOneName_90 rfl rfl 11)
def G7_readsOneName (a1 : Int) : JM Int :=
  ib (G7_takes 1) fun v1 =>
  ig (R32 v1) <|
  if v1 = 0 then (jret 0) else (ib (jG 4 0) fun v2 =>
  ib (G8_add 9 v2) fun v3 =>
  ib (G7_takes 2) fun v4 =>
  ig (R32 v4) <|
  if v4 = 0 then (jret 0) else (ib (jG 4 0) fun v5 =>
  ib (G8_add 10 v5) fun v6 =>
  ib (G7_skips 43) fun v7 =>
  ig (R32 v7) <|
  if v7 = 0 then ((G7_readsOneName_71 a1 v7)) else (ib (G7_takes 2) fun v8 =>
  ig (R32 v8) <|
  if v8 = 0 then (jret 0) else ((G7_readsOneName_71 a1 v7)))))
theorem v_C7_readsOneName  {n_a1 : Int32} {a1 : Int} (e_a1 : n_a1 = iI a1) : Sj iI (C7_readsOneName  n_a1) (G7_readsOneName  a1) := by
  subst e_a1
  unfold C7_readsOneName G7_readsOneName
  refine sj_b (v_C7_takes (eLit 1)) fun v1 => ?_
  refine sj_ig fun h1 => ?_
  refine sj_ite (cEq rfl (eLit 0) ⟨h1, (by decide)⟩) ?_ ?_
  · exact sj_re (eLit 0)
  · refine sj_b sj_G fun v2 => ?_
    refine sj_E0 (fun _ => rfl) ?_
    refine sj_b (v_C8_add 9 rfl) fun v3 => ?_
    refine sj_b (v_C7_takes (eLit 2)) fun v4 => ?_
    refine sj_ig fun h2 => ?_
    refine sj_ite (cEq rfl (eLit 0) ⟨h2, (by decide)⟩) ?_ ?_
    · exact sj_re (eLit 0)
    · refine sj_b sj_G fun v5 => ?_
      refine sj_E0 (fun _ => rfl) ?_
      refine sj_b (v_C8_add 10 rfl) fun v6 => ?_
      refine sj_b (v_C7_skips (eLit 43)) fun v7 => ?_
      refine sj_ig fun h3 => ?_
      refine sj_ite (cEq rfl (eLit 0) ⟨h3, (by decide)⟩) ?_ ?_
      · exact (v_C7_readsOneName_71 rfl rfl)
      · refine sj_b (v_C7_takes (eLit 2)) fun v8 => ?_
        refine sj_ig fun h4 => ?_
        refine sj_ite (cEq rfl (eLit 0) ⟨h4, (by decide)⟩) ?_ ?_
        · exact sj_re (eLit 0)
        · exact (v_C7_readsOneName_71 rfl rfl)
def G7_readsRow_40 (k6 : Int → JM Int) (x1 : Int) : JM Int :=
  ib (G7_skips 0) fun v1 =>
  ig (R32 v1) <|
  if v1 = 0 then ((k6 (x1 + 1))) else (jret 1)
theorem v_C7_readsRow_40 {n_k6 : Int32 → CM Int32} {k6 : Int → JM Int} (hk6 : ∀ {n0 : Int32} {z0 : Int} (_ : n0 = iI z0), Sj iI (n_k6 n0) (k6 z0)) {n_x1 : Int32} {x1 : Int} (e_x1 : n_x1 = iI x1) : Sj iI (C7_readsRow_40 n_k6 n_x1) (G7_readsRow_40 k6 x1) := by
  subst e_x1
  unfold C7_readsRow_40 G7_readsRow_40
  refine sj_b (v_C7_skips (eLit 0)) fun v1 => ?_
  refine sj_ig fun h1 => ?_
  refine sj_ite (cEq rfl (eLit 0) ⟨h1, (by decide)⟩) ?_ ?_
  · exact (hk6 (eAdd rfl (eLit 1)))
  · exact sj_re (eLit 1)
def G7_readsRow_6_st (k6 : Int → JM Int) (x1 : Int) : JM Int :=
  ig (R32 x1) <|
  if 121 ≤ x1 then (jret 0) else (ib (G7_readsOneName 0) fun v1 =>
  ig (R32 v1) <|
  if v1 = 0 then (jret 0) else (ib (G7_skips 45) fun v2 =>
  ig (R32 v2) <|
  if v2 = 0 then ((G7_readsRow_40 k6 x1)) else (ib (G7_readsOneName 45) fun v3 =>
  ig (R32 v3) <|
  if v3 = 0 then (jret 0) else ((G7_readsRow_40 k6 x1)))))
theorem v_C7_readsRow_6_st {n_k6 : Int32 → CM Int32} {k6 : Int → JM Int} (hk6 : ∀ {n0 : Int32} {z0 : Int} (_ : n0 = iI z0), Sj iI (n_k6 n0) (k6 z0)) {n_x1 : Int32} {x1 : Int} (e_x1 : n_x1 = iI x1) : Sj iI (C7_readsRow_6_st n_k6 n_x1) (G7_readsRow_6_st k6 x1) := by
  subst e_x1
  unfold C7_readsRow_6_st G7_readsRow_6_st
  refine sj_ig fun h1 => ?_
  refine sj_ite (cLe (eLit 121) rfl ⟨(by decide), h1⟩) ?_ ?_
  · exact sj_re (eLit 0)
  · refine sj_b (v_C7_readsOneName (eLit 0)) fun v1 => ?_
    refine sj_ig fun h2 => ?_
    refine sj_ite (cEq rfl (eLit 0) ⟨h2, (by decide)⟩) ?_ ?_
    · exact sj_re (eLit 0)
    · refine sj_b (v_C7_skips (eLit 45)) fun v2 => ?_
      refine sj_ig fun h3 => ?_
      refine sj_ite (cEq rfl (eLit 0) ⟨h3, (by decide)⟩) ?_ ?_
      · exact (v_C7_readsRow_40 hk6 rfl)
      · refine sj_b (v_C7_readsOneName (eLit 45)) fun v3 => ?_
        refine sj_ig fun h4 => ?_
        refine sj_ite (cEq rfl (eLit 0) ⟨h4, (by decide)⟩) ?_ ?_
        · exact sj_re (eLit 0)
        · exact (v_C7_readsRow_40 hk6 rfl)
def G7_readsRow_6 : Nat → Int → JM Int
  | 0 => fun _ => nof
  | n + 1 => fun x1 => G7_readsRow_6_st  (G7_readsRow_6  n) x1
theorem v_C7_readsRow_6  : ∀ (n : Nat) {n_x1 : Int32} {x1 : Int} (e_x1 : n_x1 = iI x1), Sj iI (C7_readsRow_6  n n_x1) (G7_readsRow_6  n x1) := by
  intro n
  induction n with
  | zero => intro n_x1 x1 e_x1; exact sj_nf
  | succ n ih => intro n_x1 x1 e_x1; exact v_C7_readsRow_6_st  (ih) e_x1
def G7_readsRow : JM Int :=
  ib G7_begin fun _ =>
  (G7_readsRow_6 LFU 0)
theorem v_C7_readsRow  : Sj iI (C7_readsRow  ) (G7_readsRow  ) := by
  unfold C7_readsRow G7_readsRow
  refine sj_b v_C7_begin fun _ => ?_
  exact (v_C7_readsRow_6 LFU (eLit 0))
def G0_placeOfSlot (this : Nat) (a1 : Int) (a2 : Int) : JM Int :=
  ig (R32 a1) <|
  if a1 < 0 then (jret (-1)) else (ib (jE (3, this)) fun _ =>
  ib (jN 7 this) fun v1 =>
  ig (R32 v1) <|
  if a1 < v1 then (ib (jE (3, this)) fun _ =>
  ib (jA 7 this a1) fun v2 =>
  ib (jE (3, this)) fun _ =>
  ib (jE (2, (this + 1))) fun _ =>
  ib (G6_isCut (this + 1) a1) fun v3 =>
  ig (R32 a2) <|
  if a2 = (-1) then (ig (R32 v3) <|
  if v3 = 0 then (jret v2) else (jret (-1))) else (if a2 < 1 then (jret (-1)) else (ib (jE (3, this)) fun _ =>
  ib (jE (2, (this + 1))) fun _ =>
  ib (G6_insertedAt (this + 1) a1) fun v4 =>
  ig (R32 v4) <|
  if a2 ≤ v4 then (ig (R32 v3) <|
  if v3 = 0 then (jret ((v2 + a2) - 0)) else (jret ((v2 + a2) - 1))) else (jret (-1))))) else (jret (-1)))
theorem v_C0_placeOfSlot  (this : Nat) {n_a1 : Int32} {a1 : Int} (e_a1 : n_a1 = iI a1) {n_a2 : Int32} {a2 : Int} (e_a2 : n_a2 = iI a2) : Sj iI (C0_placeOfSlot  this n_a1 n_a2) (G0_placeOfSlot  this a1 a2) := by
  subst e_a1
  subst e_a2
  unfold C0_placeOfSlot G0_placeOfSlot
  refine sj_ig fun h1 => ?_
  refine sj_ite (cLt rfl (eLit 0) ⟨h1, (by decide)⟩) ?_ ?_
  · exact sj_re (eLn 1)
  · refine sj_b sj_E fun _ => ?_
    refine sj_b sj_N fun v1 => ?_
    refine sj_ig fun h2 => ?_
    refine sj_ite (cLt rfl rfl ⟨h1, h2⟩) ?_ ?_
    · refine sj_b sj_E fun _ => ?_
      refine sj_b (sj_A rfl) fun v2 => ?_
      refine sj_b sj_E fun _ => ?_
      refine sj_b sj_E fun _ => ?_
      refine sj_b (v_C6_isCut (this + 1) rfl) fun v3 => ?_
      refine sj_ig fun h3 => ?_
      refine sj_ite (cEq rfl (eLn 1) ⟨h3, (by decide)⟩) ?_ ?_
      · refine sj_ig fun h4 => ?_
        refine sj_ite (cEq rfl (eLit 0) ⟨h4, (by decide)⟩) ?_ ?_
        · exact sj_re rfl
        · exact sj_re (eLn 1)
      · refine sj_ite (cLt rfl (eLit 1) ⟨h3, (by decide)⟩) ?_ ?_
        · exact sj_re (eLn 1)
        · refine sj_b sj_E fun _ => ?_
          refine sj_b sj_E fun _ => ?_
          refine sj_b (v_C6_insertedAt (this + 1) rfl) fun v4 => ?_
          refine sj_ig fun h4 => ?_
          refine sj_ite (cLe rfl rfl ⟨h3, h4⟩) ?_ ?_
          · refine sj_ig fun h5 => ?_
            refine sj_ite (cEq rfl (eLit 0) ⟨h5, (by decide)⟩) ?_ ?_
            · exact sj_re (eSub (eAdd rfl rfl) (eLit 0))
            · exact sj_re (eSub (eAdd rfl rfl) (eLit 1))
          · exact sj_re (eLn 1)
    · exact sj_re (eLn 1)
def G0_placeOf (this : Nat) (a2 : Int) : JM Int :=
  ib (jE (3, this)) fun _ =>
  ib (G8_get 9 a2) fun v1 =>
  ib (G8_get 10 a2) fun v2 =>
  ib (jE (2, (this + 1))) fun _ =>
  ib (G6_slotOf (this + 1) v1 v2) fun v3 =>
  ib (G8_get 11 a2) fun v4 =>
  ib (jE (3, this)) fun _ =>
  ib (G0_placeOfSlot this v3 v4) fun v5 =>
  jret v5
theorem v_C0_placeOf  (this : Nat) {n_a2 : Int32} {a2 : Int} (e_a2 : n_a2 = iI a2) : Sj iI (C0_placeOf  this n_a2) (G0_placeOf  this a2) := by
  subst e_a2
  unfold C0_placeOf G0_placeOf
  refine sj_b sj_E fun _ => ?_
  refine sj_E0 (fun _ => rfl) ?_
  refine sj_b (v_C8_get 9 rfl) fun v1 => ?_
  refine sj_E0 (fun _ => rfl) ?_
  refine sj_b (v_C8_get 10 rfl) fun v2 => ?_
  refine sj_b sj_E fun _ => ?_
  refine sj_b (v_C6_slotOf (this + 1) rfl rfl) fun v3 => ?_
  refine sj_E0 (fun _ => rfl) ?_
  refine sj_b (v_C8_get 11 rfl) fun v4 => ?_
  refine sj_b sj_E fun _ => ?_
  refine sj_b (v_C0_placeOfSlot this rfl rfl) fun v5 => ?_
  exact sj_re rfl
def G5_isJoined (a1 : Int) : JM Int :=
  ib (G8_get 8 a1) fun v1 =>
  ig (R32 v1) <|
  if v1 = 45 then (jret 1) else (jret 0)
theorem v_C5_isJoined  {n_a1 : Int32} {a1 : Int} (e_a1 : n_a1 = iI a1) : Sj iI (C5_isJoined  n_a1) (G5_isJoined  a1) := by
  subst e_a1
  unfold C5_isJoined G5_isJoined
  refine sj_E0 (fun _ => rfl) ?_
  refine sj_b (v_C8_get 8 rfl) fun v1 => ?_
  refine sj_ig fun h1 => ?_
  refine sj_ite (cEq rfl (eLit 45) ⟨h1, (by decide)⟩) ?_ ?_
  · exact sj_re (eLit 1)
  · exact sj_re (eLit 0)
def G3_ofRow_45 (k2 : Nat → Int → JM Int) (x1 : Nat) (x2 : Int) : JM Int :=
  (k2 x1 (x2 + 1))
theorem v_C3_ofRow_45 {n_k2 : Nat → Int32 → CM Int32} {k2 : Nat → Int → JM Int} (hk2 : ∀ (z0 : Nat) {n1 : Int32} {z1 : Int} (_ : n1 = iI z1), Sj iI (n_k2 z0 n1) (k2 z0 z1)) (x1 : Nat) {n_x2 : Int32} {x2 : Int} (e_x2 : n_x2 = iI x2) : Sj iI (C3_ofRow_45 n_k2 x1 n_x2) (G3_ofRow_45 k2 x1 x2) := by
  subst e_x2
  unfold C3_ofRow_45 G3_ofRow_45
  exact (hk2 x1 (eAdd rfl (eLit 1)))
def G3_ofRow_2_st (k2 : Nat → Int → JM Int) (x1 : Nat) (x2 : Int) : JM Int :=
  ib G5_amount fun v1 =>
  ig (R32 v1) <|
  ig (R32 x2) <|
  if v1 ≤ x2 then (jret 0) else (ib (jE (3, x1)) fun _ =>
  ib (G0_placeOf x1 x2) fun v2 =>
  ig (R32 v2) <|
  if v2 = (-1) then (jret 7) else (ib (G5_isJoined x2) fun v3 =>
  ig (R32 v3) <|
  if v3 = 0 then ((G3_ofRow_45 k2 x1 x2)) else (ib (jE (3, x1)) fun _ =>
  ib (G0_placeOf x1 (x2 - 1)) fun v4 =>
  ig (R32 v4) <|
  if v4 < v2 then ((G3_ofRow_45 k2 x1 x2)) else (jret 7))))
theorem v_C3_ofRow_2_st {n_k2 : Nat → Int32 → CM Int32} {k2 : Nat → Int → JM Int} (hk2 : ∀ (z0 : Nat) {n1 : Int32} {z1 : Int} (_ : n1 = iI z1), Sj iI (n_k2 z0 n1) (k2 z0 z1)) (x1 : Nat) {n_x2 : Int32} {x2 : Int} (e_x2 : n_x2 = iI x2) : Sj iI (C3_ofRow_2_st n_k2 x1 n_x2) (G3_ofRow_2_st k2 x1 x2) := by
  subst e_x2
  unfold C3_ofRow_2_st G3_ofRow_2_st
  refine sj_b v_C5_amount fun v1 => ?_
  refine sj_ig fun h1 => ?_
  refine sj_ig fun h2 => ?_
  refine sj_ite (cLe rfl rfl ⟨h1, h2⟩) ?_ ?_
  · exact sj_re (eLit 0)
  · refine sj_b sj_E fun _ => ?_
    refine sj_b (v_C0_placeOf x1 rfl) fun v2 => ?_
    refine sj_ig fun h3 => ?_
    refine sj_ite (cEq rfl (eLn 1) ⟨h3, (by decide)⟩) ?_ ?_
    · exact sj_re (eLit 7)
    · refine sj_b (v_C5_isJoined rfl) fun v3 => ?_
      refine sj_ig fun h4 => ?_
      refine sj_ite (cEq rfl (eLit 0) ⟨h4, (by decide)⟩) ?_ ?_
      · exact (v_C3_ofRow_45 hk2 x1 rfl)
      · refine sj_b sj_E fun _ => ?_
        refine sj_b (v_C0_placeOf x1 (eSub rfl (eLit 1))) fun v4 => ?_
        refine sj_ig fun h5 => ?_
        refine sj_ite (cLt rfl rfl ⟨h5, h3⟩) ?_ ?_
        · exact (v_C3_ofRow_45 hk2 x1 rfl)
        · exact sj_re (eLit 7)
def G3_ofRow_2 : Nat → Nat → Int → JM Int
  | 0 => fun _ _ => nof
  | n + 1 => fun x1 x2 => G3_ofRow_2_st  (G3_ofRow_2  n) x1 x2
theorem v_C3_ofRow_2  : ∀ (n : Nat) (x1 : Nat) {n_x2 : Int32} {x2 : Int} (e_x2 : n_x2 = iI x2), Sj iI (C3_ofRow_2  n x1 n_x2) (G3_ofRow_2  n x1 x2) := by
  intro n
  induction n with
  | zero => intro x1 n_x2 x2 e_x2; exact sj_nf
  | succ n ih => intro x1 n_x2 x2 e_x2; exact v_C3_ofRow_2_st  (ih) x1 e_x2
def G3_ofRow (a1 : Nat) : JM Int :=
  (G3_ofRow_2 LFU a1 0)
theorem v_C3_ofRow  (a1 : Nat) : Sj iI (C3_ofRow  a1) (G3_ofRow  a1) := by
  unfold C3_ofRow G3_ofRow
  exact (v_C3_ofRow_2 LFU a1 (eLit 0))
def G0_listsEntries_75 (k6 : Nat → Nat → Int → JM Int) (this : Nat) (x2 : Nat) (x3 : Int) : JM Int :=
  (k6 this x2 (x3 + 1))
theorem v_C0_listsEntries_75 {n_k6 : Nat → Nat → Int32 → CM Int32} {k6 : Nat → Nat → Int → JM Int} (hk6 : ∀ (z0 : Nat) (z1 : Nat) {n2 : Int32} {z2 : Int} (_ : n2 = iI z2), Sj iI (n_k6 z0 z1 n2) (k6 z0 z1 z2)) (this : Nat) (x2 : Nat) {n_x3 : Int32} {x3 : Int} (e_x3 : n_x3 = iI x3) : Sj iI (C0_listsEntries_75 n_k6 this x2 n_x3) (G0_listsEntries_75 k6 this x2 x3) := by
  subst e_x3
  unfold C0_listsEntries_75 G0_listsEntries_75
  exact (hk6 this x2 (eAdd rfl (eLit 1)))
def G0_listsEntries_51_st (k6 : Nat → Nat → Int → JM Int) (k51 : Nat → Nat → Int → Int → Int → JM Int) (this : Nat) (x2 : Nat) (x3 : Int) (x4 : Int) (x6 : Int) : JM Int :=
  ig (R32 x4) <|
  ig (R32 x6) <|
  if x4 < x6 then ((G0_listsEntries_75 k6 this x2 x3)) else (ib (jE (1, x2)) fun _ =>
  ib (G8_add x2 x6) fun v1 =>
  ig (R32 v1) <|
  if v1 = 0 then (jret 0) else ((k51 this x2 x3 x4 (x6 + 1))))
theorem v_C0_listsEntries_51_st {n_k6 : Nat → Nat → Int32 → CM Int32} {k6 : Nat → Nat → Int → JM Int} (hk6 : ∀ (z0 : Nat) (z1 : Nat) {n2 : Int32} {z2 : Int} (_ : n2 = iI z2), Sj iI (n_k6 z0 z1 n2) (k6 z0 z1 z2)) {n_k51 : Nat → Nat → Int32 → Int32 → Int32 → CM Int32} {k51 : Nat → Nat → Int → Int → Int → JM Int} (hk51 : ∀ (z0 : Nat) (z1 : Nat) {n2 : Int32} {z2 : Int} (_ : n2 = iI z2) {n3 : Int32} {z3 : Int} (_ : n3 = iI z3) {n4 : Int32} {z4 : Int} (_ : n4 = iI z4), Sj iI (n_k51 z0 z1 n2 n3 n4) (k51 z0 z1 z2 z3 z4)) (this : Nat) (x2 : Nat) {n_x3 : Int32} {x3 : Int} (e_x3 : n_x3 = iI x3) {n_x4 : Int32} {x4 : Int} (e_x4 : n_x4 = iI x4) {n_x6 : Int32} {x6 : Int} (e_x6 : n_x6 = iI x6) : Sj iI (C0_listsEntries_51_st n_k6 n_k51 this x2 n_x3 n_x4 n_x6) (G0_listsEntries_51_st k6 k51 this x2 x3 x4 x6) := by
  subst e_x3
  subst e_x4
  subst e_x6
  unfold C0_listsEntries_51_st G0_listsEntries_51_st
  refine sj_ig fun h1 => ?_
  refine sj_ig fun h2 => ?_
  refine sj_ite (cLt rfl rfl ⟨h1, h2⟩) ?_ ?_
  · exact (v_C0_listsEntries_75 hk6 this x2 rfl)
  · refine sj_b sj_E fun _ => ?_
    refine sj_b (v_C8_add x2 rfl) fun v1 => ?_
    refine sj_ig fun h3 => ?_
    refine sj_ite (cEq rfl (eLit 0) ⟨h3, (by decide)⟩) ?_ ?_
    · exact sj_re (eLit 0)
    · exact (hk51 this x2 rfl rfl (eAdd rfl (eLit 1)))
def G0_listsEntries_51 (k6 : Nat → Nat → Int → JM Int) : Nat → Nat → Nat → Int → Int → Int → JM Int
  | 0 => fun _ _ _ _ _ => nof
  | n + 1 => fun this x2 x3 x4 x6 => G0_listsEntries_51_st k6 (G0_listsEntries_51 k6 n) this x2 x3 x4 x6
theorem v_C0_listsEntries_51 {n_k6 : Nat → Nat → Int32 → CM Int32} {k6 : Nat → Nat → Int → JM Int} (hk6 : ∀ (z0 : Nat) (z1 : Nat) {n2 : Int32} {z2 : Int} (_ : n2 = iI z2), Sj iI (n_k6 z0 z1 n2) (k6 z0 z1 z2)) : ∀ (n : Nat) (this : Nat) (x2 : Nat) {n_x3 : Int32} {x3 : Int} (e_x3 : n_x3 = iI x3) {n_x4 : Int32} {x4 : Int} (e_x4 : n_x4 = iI x4) {n_x6 : Int32} {x6 : Int} (e_x6 : n_x6 = iI x6), Sj iI (C0_listsEntries_51 n_k6 n this x2 n_x3 n_x4 n_x6) (G0_listsEntries_51 k6 n this x2 x3 x4 x6) := by
  intro n
  induction n with
  | zero => intro this x2 n_x3 x3 e_x3 n_x4 x4 e_x4 n_x6 x6 e_x6; exact sj_nf
  | succ n ih => intro this x2 n_x3 x3 e_x3 n_x4 x4 e_x4 n_x6 x6 e_x6; exact v_C0_listsEntries_51_st hk6 (ih) this x2 e_x3 e_x4 e_x6
def G0_listsEntries_45 (k6 : Nat → Nat → Int → JM Int) (this : Nat) (x2 : Nat) (x3 : Int) (x4 : Int) (y0 : Int) : JM Int :=
  (G0_listsEntries_51 k6 LFU this x2 x3 x4 y0)
theorem v_C0_listsEntries_45 {n_k6 : Nat → Nat → Int32 → CM Int32} {k6 : Nat → Nat → Int → JM Int} (hk6 : ∀ (z0 : Nat) (z1 : Nat) {n2 : Int32} {z2 : Int} (_ : n2 = iI z2), Sj iI (n_k6 z0 z1 n2) (k6 z0 z1 z2)) (this : Nat) (x2 : Nat) {n_x3 : Int32} {x3 : Int} (e_x3 : n_x3 = iI x3) {n_x4 : Int32} {x4 : Int} (e_x4 : n_x4 = iI x4) {n_y0 : Int32} {y0 : Int} (e_y0 : n_y0 = iI y0) : Sj iI (C0_listsEntries_45 n_k6 this x2 n_x3 n_x4 n_y0) (G0_listsEntries_45 k6 this x2 x3 x4 y0) := by
  subst e_x3
  subst e_x4
  subst e_y0
  unfold C0_listsEntries_45 G0_listsEntries_45
  exact (v_C0_listsEntries_51 hk6 LFU this x2 rfl rfl rfl)
def G0_listsEntries_6_st (k6 : Nat → Nat → Int → JM Int) (this : Nat) (x2 : Nat) (x3 : Int) : JM Int :=
  ib G5_amount fun v1 =>
  ig (R32 v1) <|
  ig (R32 x3) <|
  if v1 ≤ x3 then (jret 1) else (ib (jE (3, this)) fun _ =>
  ib (G0_placeOf this x3) fun v2 =>
  ib (G5_isJoined x3) fun v3 =>
  ig (R32 v3) <|
  if v3 = 0 then ((G0_listsEntries_45 k6 this x2 x3 v2 v2)) else (ib (jE (3, this)) fun _ =>
  ib (G0_placeOf this (x3 - 1)) fun v4 =>
  (G0_listsEntries_45 k6 this x2 x3 v2 (v4 + 1))))
theorem v_C0_listsEntries_6_st {n_k6 : Nat → Nat → Int32 → CM Int32} {k6 : Nat → Nat → Int → JM Int} (hk6 : ∀ (z0 : Nat) (z1 : Nat) {n2 : Int32} {z2 : Int} (_ : n2 = iI z2), Sj iI (n_k6 z0 z1 n2) (k6 z0 z1 z2)) (this : Nat) (x2 : Nat) {n_x3 : Int32} {x3 : Int} (e_x3 : n_x3 = iI x3) : Sj iI (C0_listsEntries_6_st n_k6 this x2 n_x3) (G0_listsEntries_6_st k6 this x2 x3) := by
  subst e_x3
  unfold C0_listsEntries_6_st G0_listsEntries_6_st
  refine sj_b v_C5_amount fun v1 => ?_
  refine sj_ig fun h1 => ?_
  refine sj_ig fun h2 => ?_
  refine sj_ite (cLe rfl rfl ⟨h1, h2⟩) ?_ ?_
  · exact sj_re (eLit 1)
  · refine sj_b sj_E fun _ => ?_
    refine sj_b (v_C0_placeOf this rfl) fun v2 => ?_
    refine sj_b (v_C5_isJoined rfl) fun v3 => ?_
    refine sj_ig fun h3 => ?_
    refine sj_ite (cEq rfl (eLit 0) ⟨h3, (by decide)⟩) ?_ ?_
    · exact (v_C0_listsEntries_45 hk6 this x2 rfl rfl rfl)
    · refine sj_b sj_E fun _ => ?_
      refine sj_b (v_C0_placeOf this (eSub rfl (eLit 1))) fun v4 => ?_
      exact (v_C0_listsEntries_45 hk6 this x2 rfl rfl (eAdd rfl (eLit 1)))
def G0_listsEntries_6 : Nat → Nat → Nat → Int → JM Int
  | 0 => fun _ _ _ => nof
  | n + 1 => fun this x2 x3 => G0_listsEntries_6_st  (G0_listsEntries_6  n) this x2 x3
theorem v_C0_listsEntries_6  : ∀ (n : Nat) (this : Nat) (x2 : Nat) {n_x3 : Int32} {x3 : Int} (e_x3 : n_x3 = iI x3), Sj iI (C0_listsEntries_6  n this x2 n_x3) (G0_listsEntries_6  n this x2 x3) := by
  intro n
  induction n with
  | zero => intro this x2 n_x3 x3 e_x3; exact sj_nf
  | succ n ih => intro this x2 n_x3 x3 e_x3; exact v_C0_listsEntries_6_st  (ih) this x2 e_x3
def G0_listsEntries (this : Nat) (a2 : Nat) : JM Int :=
  ib (jE (1, a2)) fun _ =>
  ib (G8_clear a2) fun _ =>
  (G0_listsEntries_6 LFU this a2 0)
theorem v_C0_listsEntries  (this : Nat) (a2 : Nat) : Sj iI (C0_listsEntries  this a2) (G0_listsEntries  this a2) := by
  unfold C0_listsEntries G0_listsEntries
  refine sj_b sj_E fun _ => ?_
  refine sj_b (v_C8_clear a2) fun _ => ?_
  exact (v_C0_listsEntries_6 LFU this a2 (eLit 0))
def G11_draftRow (a1 : Nat) : JM Int :=
  ib (G3_ofRow a1) fun v1 =>
  ib (jP 10 0 v1) fun _ =>
  ib (jG 10 0) fun v2 =>
  ig (R32 v2) <|
  if v2 = 0 then (ib (jE (3, a1)) fun _ =>
  ib (G0_listsEntries a1 12) fun v3 =>
  ig (R32 v3) <|
  if v3 = 0 then (jret 9) else (jret 0)) else (jret 4)
theorem v_C11_draftRow  (a1 : Nat) : Sj iI (C11_draftRow  a1) (G11_draftRow  a1) := by
  unfold C11_draftRow G11_draftRow
  refine sj_b (v_C3_ofRow a1) fun v1 => ?_
  refine sj_b (sj_P rfl) fun _ => ?_
  refine sj_b sj_G fun v2 => ?_
  refine sj_ig fun h1 => ?_
  refine sj_ite (cEq rfl (eLit 0) ⟨h1, (by decide)⟩) ?_ ?_
  · refine sj_b sj_E fun _ => ?_
    refine sj_b (v_C0_listsEntries a1 12) fun v3 => ?_
    refine sj_ig fun h2 => ?_
    refine sj_ite (cEq rfl (eLit 0) ⟨h2, (by decide)⟩) ?_ ?_
    · exact sj_re (eLit 9)
    · exact sj_re (eLit 0)
  · exact sj_re (eLit 4)
def G8_copyFrom_6_st (k6 : Nat → Nat → Int → JM Unit) (this : Nat) (x1 : Nat) (x2 : Int) : JM Unit :=
  ib (jG 1 x1) fun v1 =>
  ig (R32 v1) <|
  ig (R32 x2) <|
  if v1 ≤ x2 then (jret ()) else (ib (jE (1, x1)) fun _ =>
  ib (G8_get x1 x2) fun v2 =>
  ib (jE (1, this)) fun _ =>
  ib (G8_add this v2) fun v3 =>
  (k6 this x1 (x2 + 1)))
theorem v_C8_copyFrom_6_st {n_k6 : Nat → Nat → Int32 → CM Unit} {k6 : Nat → Nat → Int → JM Unit} (hk6 : ∀ (z0 : Nat) (z1 : Nat) {n2 : Int32} {z2 : Int} (_ : n2 = iI z2), Sj (fun x : Unit => x) (n_k6 z0 z1 n2) (k6 z0 z1 z2)) (this : Nat) (x1 : Nat) {n_x2 : Int32} {x2 : Int} (e_x2 : n_x2 = iI x2) : Sj (fun x : Unit => x) (C8_copyFrom_6_st n_k6 this x1 n_x2) (G8_copyFrom_6_st k6 this x1 x2) := by
  subst e_x2
  unfold C8_copyFrom_6_st G8_copyFrom_6_st
  refine sj_b sj_G fun v1 => ?_
  refine sj_ig fun h1 => ?_
  refine sj_ig fun h2 => ?_
  refine sj_ite (cLe rfl rfl ⟨h1, h2⟩) ?_ ?_
  · exact sj_rn
  · refine sj_b sj_E fun _ => ?_
    refine sj_b (v_C8_get x1 rfl) fun v2 => ?_
    refine sj_b sj_E fun _ => ?_
    refine sj_b (v_C8_add this rfl) fun v3 => ?_
    exact (hk6 this x1 (eAdd rfl (eLit 1)))
def G8_copyFrom_6 : Nat → Nat → Nat → Int → JM Unit
  | 0 => fun _ _ _ => nof
  | n + 1 => fun this x1 x2 => G8_copyFrom_6_st  (G8_copyFrom_6  n) this x1 x2
theorem v_C8_copyFrom_6  : ∀ (n : Nat) (this : Nat) (x1 : Nat) {n_x2 : Int32} {x2 : Int} (e_x2 : n_x2 = iI x2), Sj (fun x : Unit => x) (C8_copyFrom_6  n this x1 n_x2) (G8_copyFrom_6  n this x1 x2) := by
  intro n
  induction n with
  | zero => intro this x1 n_x2 x2 e_x2; exact sj_nf
  | succ n ih => intro this x1 n_x2 x2 e_x2; exact v_C8_copyFrom_6_st  (ih) this x1 e_x2
def G8_copyFrom (this : Nat) (a1 : Nat) : JM Unit :=
  ib (jE (1, this)) fun _ =>
  ib (G8_clear this) fun _ =>
  (G8_copyFrom_6 LFU this a1 0)
theorem v_C8_copyFrom  (this : Nat) (a1 : Nat) : Sj (fun x : Unit => x) (C8_copyFrom  this a1) (G8_copyFrom  this a1) := by
  unfold C8_copyFrom G8_copyFrom
  refine sj_b sj_E fun _ => ?_
  refine sj_b (v_C8_clear this) fun _ => ?_
  exact (v_C8_copyFrom_6 LFU this a1 (eLit 0))
def G1_markAt (a1 : Int) : JM Int :=
  ig (R32 a1) <|
  if a1 < 0 then (jret 0) else (ib (jN 8 0) fun v1 =>
  ig (R32 v1) <|
  if a1 < v1 then (ib (jA 8 0 a1) fun v2 =>
  jret v2) else (jret 0))
theorem v_C1_markAt  {n_a1 : Int32} {a1 : Int} (e_a1 : n_a1 = iI a1) : Sj iI (C1_markAt  n_a1) (G1_markAt  a1) := by
  subst e_a1
  unfold C1_markAt G1_markAt
  refine sj_ig fun h1 => ?_
  refine sj_ite (cLt rfl (eLit 0) ⟨h1, (by decide)⟩) ?_ ?_
  · exact sj_re (eLit 0)
  · refine sj_b sj_N fun v1 => ?_
    refine sj_ig fun h2 => ?_
    refine sj_ite (cLt rfl rfl ⟨h1, h2⟩) ?_ ?_
    · refine sj_b (sj_A rfl) fun v2 => ?_
      exact sj_re rfl
    · exact sj_re (eLit 0)
def G1_setMark (a1 : Int) (a2 : Int) : JM Unit :=
  ig (R32 a1) <|
  if a1 < 0 then (jret ()) else (ib (jN 8 0) fun v1 =>
  ig (R32 v1) <|
  if v1 ≤ a1 then (jret ()) else (ib (jS 8 0 a1 a2) fun _ =>
  jret ()))
theorem v_C1_setMark  {n_a1 : Int32} {a1 : Int} (e_a1 : n_a1 = iI a1) {n_a2 : Int32} {a2 : Int} (e_a2 : n_a2 = iI a2) : Sj (fun x : Unit => x) (C1_setMark  n_a1 n_a2) (G1_setMark  a1 a2) := by
  subst e_a1
  subst e_a2
  unfold C1_setMark G1_setMark
  refine sj_ig fun h1 => ?_
  refine sj_ite (cLt rfl (eLit 0) ⟨h1, (by decide)⟩) ?_ ?_
  · exact sj_rn
  · refine sj_b sj_N fun v1 => ?_
    refine sj_ig fun h2 => ?_
    refine sj_ite (cLe rfl rfl ⟨h2, h1⟩) ?_ ?_
    · exact sj_rn
    · refine sj_b (sj_S rfl rfl) fun _ => ?_
      exact sj_rn
def G1_countEntries_10_st (k10 : Nat → Int → JM Unit) (x1 : Nat) (x2 : Int) : JM Unit :=
  ib (jG 1 x1) fun v1 =>
  ig (R32 v1) <|
  ig (R32 x2) <|
  if v1 ≤ x2 then (jret ()) else (ib (jE (1, x1)) fun _ =>
  ib (G8_get x1 x2) fun v2 =>
  ib (G1_markAt v2) fun v3 =>
  ib (G1_setMark v2 (v3 + 1)) fun _ =>
  (k10 x1 (x2 + 1)))
theorem v_C1_countEntries_10_st {n_k10 : Nat → Int32 → CM Unit} {k10 : Nat → Int → JM Unit} (hk10 : ∀ (z0 : Nat) {n1 : Int32} {z1 : Int} (_ : n1 = iI z1), Sj (fun x : Unit => x) (n_k10 z0 n1) (k10 z0 z1)) (x1 : Nat) {n_x2 : Int32} {x2 : Int} (e_x2 : n_x2 = iI x2) : Sj (fun x : Unit => x) (C1_countEntries_10_st n_k10 x1 n_x2) (G1_countEntries_10_st k10 x1 x2) := by
  subst e_x2
  unfold C1_countEntries_10_st G1_countEntries_10_st
  refine sj_b sj_G fun v1 => ?_
  refine sj_ig fun h1 => ?_
  refine sj_ig fun h2 => ?_
  refine sj_ite (cLe rfl rfl ⟨h1, h2⟩) ?_ ?_
  · exact sj_rn
  · refine sj_b sj_E fun _ => ?_
    refine sj_b (v_C8_get x1 rfl) fun v2 => ?_
    refine sj_b (v_C1_markAt rfl) fun v3 => ?_
    refine sj_b (v_C1_setMark rfl (eAdd rfl (eLit 1))) fun _ => ?_
    exact (hk10 x1 (eAdd rfl (eLit 1)))
def G1_countEntries_10 : Nat → Nat → Int → JM Unit
  | 0 => fun _ _ => nof
  | n + 1 => fun x1 x2 => G1_countEntries_10_st  (G1_countEntries_10  n) x1 x2
theorem v_C1_countEntries_10  : ∀ (n : Nat) (x1 : Nat) {n_x2 : Int32} {x2 : Int} (e_x2 : n_x2 = iI x2), Sj (fun x : Unit => x) (C1_countEntries_10  n x1 n_x2) (G1_countEntries_10  n x1 x2) := by
  intro n
  induction n with
  | zero => intro x1 n_x2 x2 e_x2; exact sj_nf
  | succ n ih => intro x1 n_x2 x2 e_x2; exact v_C1_countEntries_10_st  (ih) x1 e_x2
def G1_countEntries (a1 : Nat) : JM Unit :=
  ib (jFi 8 0 false 0) fun _ =>
  (G1_countEntries_10 LFU a1 0)
theorem v_C1_countEntries  (a1 : Nat) : Sj (fun x : Unit => x) (C1_countEntries  a1) (G1_countEntries  a1) := by
  unfold C1_countEntries G1_countEntries
  refine sj_b (sj_Fi (eLit 0)) fun _ => ?_
  exact (v_C1_countEntries_10 LFU a1 (eLit 0))
def G0_signAt (this : Nat) (a1 : Int) : JM Int :=
  ib (jE (3, this)) fun _ =>
  ib (jE (3, this)) fun _ =>
  ib (jE (1, (100 + (4 * this)))) fun _ =>
  ib (G8_get (100 + (4 * this)) a1) fun v1 =>
  ib (jE (2, (this + 1))) fun _ =>
  ib (G6_signOf (this + 1) v1) fun v2 =>
  jret v2
theorem v_C0_signAt  (this : Nat) {n_a1 : Int32} {a1 : Int} (e_a1 : n_a1 = iI a1) : Sj iI (C0_signAt  this n_a1) (G0_signAt  this a1) := by
  subst e_a1
  unfold C0_signAt G0_signAt
  refine sj_b sj_E fun _ => ?_
  refine sj_b sj_E fun _ => ?_
  refine sj_b sj_E fun _ => ?_
  refine sj_b (v_C8_get (100 + (4 * this)) rfl) fun v1 => ?_
  refine sj_b sj_E fun _ => ?_
  refine sj_b (v_C6_signOf (this + 1) rfl) fun v2 => ?_
  exact sj_re rfl
def G0_conjugateOf (this : Nat) (a1 : Int) : JM Int :=
  ib (jE (3, this)) fun _ =>
  ib (G0_signAt this a1) fun v1 =>
  ib (jE (3, this)) fun _ =>
  ib (jE (1, (101 + (4 * this)))) fun _ =>
  ib (G8_get (101 + (4 * this)) a1) fun v2 =>
  ib (jE (3, this)) fun _ =>
  ib (jE (2, (this + 1))) fun _ =>
  ib (G6_sizeOf (this + 1) v1) fun v3 =>
  ib (jE (3, this)) fun _ =>
  ib (jE (2, (this + 1))) fun _ =>
  ib (G6_slotOf (this + 1) v1 ((v3 + 1) - v2)) fun v4 =>
  ib (jE (3, this)) fun _ =>
  ib (jE (1, (102 + (4 * this)))) fun _ =>
  ib (G8_get (102 + (4 * this)) a1) fun v5 =>
  ig (R32 v5) <|
  if v5 = 0 then (ig (R32 ((v3 + 1) - v2)) <|
  ig (R32 v2) <|
  if ((v3 + 1) - v2) = v2 then (jret (-1)) else (ib (jE (3, this)) fun _ =>
  ib (jE (2, (this + 1))) fun _ =>
  ib (G6_fateOf (this + 1) v4) fun v6 =>
  ig (R32 v6) <|
  if v6 = 0 then (ib (jE (3, this)) fun _ =>
  ib (G0_placeOfSlot this v4 (-1)) fun v7 =>
  jret v7) else (jret (-1)))) else (jret (-1))
theorem v_C0_conjugateOf  (this : Nat) {n_a1 : Int32} {a1 : Int} (e_a1 : n_a1 = iI a1) : Sj iI (C0_conjugateOf  this n_a1) (G0_conjugateOf  this a1) := by
  subst e_a1
  unfold C0_conjugateOf G0_conjugateOf
  refine sj_b sj_E fun _ => ?_
  refine sj_b (v_C0_signAt this rfl) fun v1 => ?_
  refine sj_b sj_E fun _ => ?_
  refine sj_b sj_E fun _ => ?_
  refine sj_b (v_C8_get (101 + (4 * this)) rfl) fun v2 => ?_
  refine sj_b sj_E fun _ => ?_
  refine sj_b sj_E fun _ => ?_
  refine sj_b (v_C6_sizeOf (this + 1) rfl) fun v3 => ?_
  refine sj_b sj_E fun _ => ?_
  refine sj_b sj_E fun _ => ?_
  refine sj_b (v_C6_slotOf (this + 1) rfl (eSub (eAdd rfl (eLit 1)) rfl)) fun v4 => ?_
  refine sj_b sj_E fun _ => ?_
  refine sj_b sj_E fun _ => ?_
  refine sj_b (v_C8_get (102 + (4 * this)) rfl) fun v5 => ?_
  refine sj_ig fun h1 => ?_
  refine sj_ite (cEq rfl (eLit 0) ⟨h1, (by decide)⟩) ?_ ?_
  · refine sj_ig fun h2 => ?_
    refine sj_ig fun h3 => ?_
    refine sj_ite (cEq (eSub (eAdd rfl (eLit 1)) rfl) rfl ⟨h2, h3⟩) ?_ ?_
    · exact sj_re (eLn 1)
    · refine sj_b sj_E fun _ => ?_
      refine sj_b sj_E fun _ => ?_
      refine sj_b (v_C6_fateOf (this + 1) rfl) fun v6 => ?_
      refine sj_ig fun h4 => ?_
      refine sj_ite (cEq rfl (eLit 0) ⟨h4, (by decide)⟩) ?_ ?_
      · refine sj_b sj_E fun _ => ?_
        refine sj_b (v_C0_placeOfSlot this rfl (eLn 1)) fun v7 => ?_
        exact sj_re rfl
      · exact sj_re (eLn 1)
  · exact sj_re (eLn 1)
def G1_measureReach_83 (k17 : Nat → Int → Int → JM Int) (x1 : Nat) (x2 : Int) (x3 : Int) (x5 : Int) : JM Int :=
  ib (jS 9 0 x3 (x5 + 1)) fun _ =>
  ig (R32 x2) <|
  ig (R32 (x5 + 1)) <|
  (k17 x1 (if x2 < (x5 + 1) then (x5 + 1) else x2) (x3 + (-1)))
theorem v_C1_measureReach_83 {n_k17 : Nat → Int32 → Int32 → CM Int32} {k17 : Nat → Int → Int → JM Int} (hk17 : ∀ (z0 : Nat) {n1 : Int32} {z1 : Int} (_ : n1 = iI z1) {n2 : Int32} {z2 : Int} (_ : n2 = iI z2), Sj iI (n_k17 z0 n1 n2) (k17 z0 z1 z2)) (x1 : Nat) {n_x2 : Int32} {x2 : Int} (e_x2 : n_x2 = iI x2) {n_x3 : Int32} {x3 : Int} (e_x3 : n_x3 = iI x3) {n_x5 : Int32} {x5 : Int} (e_x5 : n_x5 = iI x5) : Sj iI (C1_measureReach_83 n_k17 x1 n_x2 n_x3 n_x5) (G1_measureReach_83 k17 x1 x2 x3 x5) := by
  subst e_x2
  subst e_x3
  subst e_x5
  unfold C1_measureReach_83 G1_measureReach_83
  refine sj_b (sj_S rfl (eAdd rfl (eLit 1))) fun _ => ?_
  refine sj_ig fun h1 => ?_
  refine sj_ig fun h2 => ?_
  exact (hk17 x1 (eIte (cLt rfl (eAdd rfl (eLit 1)) ⟨h1, h2⟩) (eAdd rfl (eLit 1)) rfl) (eAdd rfl (eLn 1)))
def G1_measureReach_64 (k17 : Nat → Int → Int → JM Int) (x1 : Nat) (x2 : Int) (x3 : Int) (x4 : Int) (x5 : Int) : JM Int :=
  ib (jN 10 0) fun v1 =>
  ig (R32 v1) <|
  ig (R32 x5) <|
  if v1 ≤ x5 then ((G1_measureReach_83 k17 x1 x2 x3 x5)) else (ib (jS 10 0 x5 x4) fun _ =>
  (G1_measureReach_83 k17 x1 x2 x3 x5))
theorem v_C1_measureReach_64 {n_k17 : Nat → Int32 → Int32 → CM Int32} {k17 : Nat → Int → Int → JM Int} (hk17 : ∀ (z0 : Nat) {n1 : Int32} {z1 : Int} (_ : n1 = iI z1) {n2 : Int32} {z2 : Int} (_ : n2 = iI z2), Sj iI (n_k17 z0 n1 n2) (k17 z0 z1 z2)) (x1 : Nat) {n_x2 : Int32} {x2 : Int} (e_x2 : n_x2 = iI x2) {n_x3 : Int32} {x3 : Int} (e_x3 : n_x3 = iI x3) {n_x4 : Int32} {x4 : Int} (e_x4 : n_x4 = iI x4) {n_x5 : Int32} {x5 : Int} (e_x5 : n_x5 = iI x5) : Sj iI (C1_measureReach_64 n_k17 x1 n_x2 n_x3 n_x4 n_x5) (G1_measureReach_64 k17 x1 x2 x3 x4 x5) := by
  subst e_x2
  subst e_x3
  subst e_x4
  subst e_x5
  unfold C1_measureReach_64 G1_measureReach_64
  refine sj_b sj_N fun v1 => ?_
  refine sj_ig fun h1 => ?_
  refine sj_ig fun h2 => ?_
  refine sj_ite (cLe rfl rfl ⟨h1, h2⟩) ?_ ?_
  · exact (v_C1_measureReach_83 hk17 x1 rfl rfl rfl)
  · refine sj_b (sj_S rfl rfl) fun _ => ?_
    exact (v_C1_measureReach_83 hk17 x1 rfl rfl rfl)
def G1_measureReach_39_st (k17 : Nat → Int → Int → JM Int) (k39 : Nat → Int → Int → Int → Int → JM Int) (x1 : Nat) (x2 : Int) (x3 : Int) (x4 : Int) (x5 : Int) : JM Int :=
  ig (R32 x5) <|
  if x5 ≤ 0 then ((G1_measureReach_64 k17 x1 x2 x3 x4 x5)) else (ib (jA 10 0 (x5 - 1)) fun v1 =>
  ig (R32 x4) <|
  ig (R32 v1) <|
  if x4 < v1 then ((G1_measureReach_64 k17 x1 x2 x3 x4 x5)) else ((k39 x1 x2 x3 x4 (x5 + (-1)))))
theorem v_C1_measureReach_39_st {n_k17 : Nat → Int32 → Int32 → CM Int32} {k17 : Nat → Int → Int → JM Int} (hk17 : ∀ (z0 : Nat) {n1 : Int32} {z1 : Int} (_ : n1 = iI z1) {n2 : Int32} {z2 : Int} (_ : n2 = iI z2), Sj iI (n_k17 z0 n1 n2) (k17 z0 z1 z2)) {n_k39 : Nat → Int32 → Int32 → Int32 → Int32 → CM Int32} {k39 : Nat → Int → Int → Int → Int → JM Int} (hk39 : ∀ (z0 : Nat) {n1 : Int32} {z1 : Int} (_ : n1 = iI z1) {n2 : Int32} {z2 : Int} (_ : n2 = iI z2) {n3 : Int32} {z3 : Int} (_ : n3 = iI z3) {n4 : Int32} {z4 : Int} (_ : n4 = iI z4), Sj iI (n_k39 z0 n1 n2 n3 n4) (k39 z0 z1 z2 z3 z4)) (x1 : Nat) {n_x2 : Int32} {x2 : Int} (e_x2 : n_x2 = iI x2) {n_x3 : Int32} {x3 : Int} (e_x3 : n_x3 = iI x3) {n_x4 : Int32} {x4 : Int} (e_x4 : n_x4 = iI x4) {n_x5 : Int32} {x5 : Int} (e_x5 : n_x5 = iI x5) : Sj iI (C1_measureReach_39_st n_k17 n_k39 x1 n_x2 n_x3 n_x4 n_x5) (G1_measureReach_39_st k17 k39 x1 x2 x3 x4 x5) := by
  subst e_x2
  subst e_x3
  subst e_x4
  subst e_x5
  unfold C1_measureReach_39_st G1_measureReach_39_st
  refine sj_ig fun h1 => ?_
  refine sj_ite (cLe rfl (eLit 0) ⟨h1, (by decide)⟩) ?_ ?_
  · exact (v_C1_measureReach_64 hk17 x1 rfl rfl rfl rfl)
  · refine sj_b (sj_A (eSub rfl (eLit 1))) fun v1 => ?_
    refine sj_ig fun h2 => ?_
    refine sj_ig fun h3 => ?_
    refine sj_ite (cLt rfl rfl ⟨h2, h3⟩) ?_ ?_
    · exact (v_C1_measureReach_64 hk17 x1 rfl rfl rfl rfl)
    · exact (hk39 x1 rfl rfl rfl (eAdd rfl (eLn 1)))
def G1_measureReach_39 (k17 : Nat → Int → Int → JM Int) : Nat → Nat → Int → Int → Int → Int → JM Int
  | 0 => fun _ _ _ _ _ => nof
  | n + 1 => fun x1 x2 x3 x4 x5 => G1_measureReach_39_st k17 (G1_measureReach_39 k17 n) x1 x2 x3 x4 x5
theorem v_C1_measureReach_39 {n_k17 : Nat → Int32 → Int32 → CM Int32} {k17 : Nat → Int → Int → JM Int} (hk17 : ∀ (z0 : Nat) {n1 : Int32} {z1 : Int} (_ : n1 = iI z1) {n2 : Int32} {z2 : Int} (_ : n2 = iI z2), Sj iI (n_k17 z0 n1 n2) (k17 z0 z1 z2)) : ∀ (n : Nat) (x1 : Nat) {n_x2 : Int32} {x2 : Int} (e_x2 : n_x2 = iI x2) {n_x3 : Int32} {x3 : Int} (e_x3 : n_x3 = iI x3) {n_x4 : Int32} {x4 : Int} (e_x4 : n_x4 = iI x4) {n_x5 : Int32} {x5 : Int} (e_x5 : n_x5 = iI x5), Sj iI (C1_measureReach_39 n_k17 n x1 n_x2 n_x3 n_x4 n_x5) (G1_measureReach_39 k17 n x1 x2 x3 x4 x5) := by
  intro n
  induction n with
  | zero => intro x1 n_x2 x2 e_x2 n_x3 x3 e_x3 n_x4 x4 e_x4 n_x5 x5 e_x5; exact sj_nf
  | succ n ih => intro x1 n_x2 x2 e_x2 n_x3 x3 e_x3 n_x4 x4 e_x4 n_x5 x5 e_x5; exact v_C1_measureReach_39_st hk17 (ih) x1 e_x2 e_x3 e_x4 e_x5
def G1_measureReach_17_st (k17 : Nat → Int → Int → JM Int) (x1 : Nat) (x2 : Int) (x3 : Int) : JM Int :=
  ig (R32 x3) <|
  if x3 < 0 then (jret x2) else (ib (jE (1, x1)) fun _ =>
  ib (G8_get x1 x3) fun v1 =>
  ib (jN 10 0) fun v2 =>
  ig (R32 v2) <|
  ig (R32 x2) <|
  (G1_measureReach_39 k17 LFU x1 x2 x3 v1 (if v2 < x2 then v2 else x2)))
theorem v_C1_measureReach_17_st {n_k17 : Nat → Int32 → Int32 → CM Int32} {k17 : Nat → Int → Int → JM Int} (hk17 : ∀ (z0 : Nat) {n1 : Int32} {z1 : Int} (_ : n1 = iI z1) {n2 : Int32} {z2 : Int} (_ : n2 = iI z2), Sj iI (n_k17 z0 n1 n2) (k17 z0 z1 z2)) (x1 : Nat) {n_x2 : Int32} {x2 : Int} (e_x2 : n_x2 = iI x2) {n_x3 : Int32} {x3 : Int} (e_x3 : n_x3 = iI x3) : Sj iI (C1_measureReach_17_st n_k17 x1 n_x2 n_x3) (G1_measureReach_17_st k17 x1 x2 x3) := by
  subst e_x2
  subst e_x3
  unfold C1_measureReach_17_st G1_measureReach_17_st
  refine sj_ig fun h1 => ?_
  refine sj_ite (cLt rfl (eLit 0) ⟨h1, (by decide)⟩) ?_ ?_
  · exact sj_re rfl
  · refine sj_b sj_E fun _ => ?_
    refine sj_b (v_C8_get x1 rfl) fun v1 => ?_
    refine sj_b sj_N fun v2 => ?_
    refine sj_ig fun h2 => ?_
    refine sj_ig fun h3 => ?_
    exact (v_C1_measureReach_39 hk17 LFU x1 rfl rfl rfl (eIte (cLt rfl rfl ⟨h2, h3⟩) rfl rfl))
def G1_measureReach_17 : Nat → Nat → Int → Int → JM Int
  | 0 => fun _ _ _ => nof
  | n + 1 => fun x1 x2 x3 => G1_measureReach_17_st  (G1_measureReach_17  n) x1 x2 x3
theorem v_C1_measureReach_17  : ∀ (n : Nat) (x1 : Nat) {n_x2 : Int32} {x2 : Int} (e_x2 : n_x2 = iI x2) {n_x3 : Int32} {x3 : Int} (e_x3 : n_x3 = iI x3), Sj iI (C1_measureReach_17  n x1 n_x2 n_x3) (G1_measureReach_17  n x1 x2 x3) := by
  intro n
  induction n with
  | zero => intro x1 n_x2 x2 e_x2 n_x3 x3 e_x3; exact sj_nf
  | succ n ih => intro x1 n_x2 x2 e_x2 n_x3 x3 e_x3; exact v_C1_measureReach_17_st  (ih) x1 e_x2 e_x3
def G1_measureReach (a1 : Nat) : JM Int :=
  ib (jG 1 a1) fun v1 =>
  ib (jN 9 0) fun v2 =>
  ig (R32 v2) <|
  ig (R32 v1) <|
  (G1_measureReach_17 LFU a1 0 ((if v2 < v1 then v2 else v1) - 1))
theorem v_C1_measureReach  (a1 : Nat) : Sj iI (C1_measureReach  a1) (G1_measureReach  a1) := by
  unfold C1_measureReach G1_measureReach
  refine sj_b sj_G fun v1 => ?_
  refine sj_b sj_N fun v2 => ?_
  refine sj_ig fun h1 => ?_
  refine sj_ig fun h2 => ?_
  exact (v_C1_measureReach_17 LFU a1 (eLit 0) (eSub (eIte (cLt rfl rfl ⟨h1, h2⟩) rfl rfl) (eLit 1)))
def G1_listStrays_81 (k8 : Nat → Int → Int → Int → JM Unit) (x1 : Nat) (x3 : Int) (x4 : Int) (x5 : Int) : JM Unit :=
  (k8 x1 x3 x4 (x5 + 1))
theorem v_C1_listStrays_81 {n_k8 : Nat → Int32 → Int32 → Int32 → CM Unit} {k8 : Nat → Int → Int → Int → JM Unit} (hk8 : ∀ (z0 : Nat) {n1 : Int32} {z1 : Int} (_ : n1 = iI z1) {n2 : Int32} {z2 : Int} (_ : n2 = iI z2) {n3 : Int32} {z3 : Int} (_ : n3 = iI z3), Sj (fun x : Unit => x) (n_k8 z0 n1 n2 n3) (k8 z0 z1 z2 z3)) (x1 : Nat) {n_x3 : Int32} {x3 : Int} (e_x3 : n_x3 = iI x3) {n_x4 : Int32} {x4 : Int} (e_x4 : n_x4 = iI x4) {n_x5 : Int32} {x5 : Int} (e_x5 : n_x5 = iI x5) : Sj (fun x : Unit => x) (C1_listStrays_81 n_k8 x1 n_x3 n_x4 n_x5) (G1_listStrays_81 k8 x1 x3 x4 x5) := by
  subst e_x3
  subst e_x4
  subst e_x5
  unfold C1_listStrays_81 G1_listStrays_81
  exact (hk8 x1 rfl rfl (eAdd rfl (eLit 1)))
def G1_listStrays_71 (k8 : Nat → Int → Int → Int → JM Unit) (x1 : Nat) (x3 : Int) (x4 : Int) (x5 : Int) : JM Unit :=
  ib (jE (4, x1)) fun _ =>
  ib (jE (1, (203 + (5 * x1)))) fun _ =>
  ib (G8_add (203 + (5 * x1)) x5) fun v1 =>
  (G1_listStrays_81 k8 x1 x3 x4 x5)
theorem v_C1_listStrays_71 {n_k8 : Nat → Int32 → Int32 → Int32 → CM Unit} {k8 : Nat → Int → Int → Int → JM Unit} (hk8 : ∀ (z0 : Nat) {n1 : Int32} {z1 : Int} (_ : n1 = iI z1) {n2 : Int32} {z2 : Int} (_ : n2 = iI z2) {n3 : Int32} {z3 : Int} (_ : n3 = iI z3), Sj (fun x : Unit => x) (n_k8 z0 n1 n2 n3) (k8 z0 z1 z2 z3)) (x1 : Nat) {n_x3 : Int32} {x3 : Int} (e_x3 : n_x3 = iI x3) {n_x4 : Int32} {x4 : Int} (e_x4 : n_x4 = iI x4) {n_x5 : Int32} {x5 : Int} (e_x5 : n_x5 = iI x5) : Sj (fun x : Unit => x) (C1_listStrays_71 n_k8 x1 n_x3 n_x4 n_x5) (G1_listStrays_71 k8 x1 x3 x4 x5) := by
  subst e_x3
  subst e_x4
  subst e_x5
  unfold C1_listStrays_71 G1_listStrays_71
  refine sj_b sj_E fun _ => ?_
  refine sj_b sj_E fun _ => ?_
  refine sj_b (v_C8_add (203 + (5 * x1)) rfl) fun v1 => ?_
  exact (v_C1_listStrays_81 hk8 x1 rfl rfl rfl)
def G1_listStrays_8_st (k8 : Nat → Int → Int → Int → JM Unit) (x1 : Nat) (x3 : Int) (x4 : Int) (x5 : Int) : JM Unit :=
  ib (jE (4, x1)) fun _ =>
  ib (jG 1 (200 + (5 * x1))) fun v1 =>
  ib (jN 9 0) fun v2 =>
  ig (R32 v2) <|
  ig (R32 v1) <|
  ig (R32 (if v2 < v1 then v2 else v1)) <|
  ig (R32 x5) <|
  if (if v2 < v1 then v2 else v1) ≤ x5 then (jret ()) else (ib (jE (4, x1)) fun _ =>
  ib (jE (1, (200 + (5 * x1)))) fun _ =>
  ib (G8_get (200 + (5 * x1)) x5) fun v3 =>
  ig (R32 x3) <|
  if x3 ≤ 0 then ((G1_listStrays_71 k8 x1 x3 x4 x5)) else (ib (jA 9 0 x5) fun v4 =>
  ig (R32 v4) <|
  if v4 = x3 then (ig (R32 v3) <|
  ig (R32 x4) <|
  if v3 ≤ x4 then ((G1_listStrays_71 k8 x1 x3 x4 x5)) else ((G1_listStrays_81 k8 x1 (x3 + (-1)) v3 x5))) else ((G1_listStrays_71 k8 x1 x3 x4 x5))))
theorem v_C1_listStrays_8_st {n_k8 : Nat → Int32 → Int32 → Int32 → CM Unit} {k8 : Nat → Int → Int → Int → JM Unit} (hk8 : ∀ (z0 : Nat) {n1 : Int32} {z1 : Int} (_ : n1 = iI z1) {n2 : Int32} {z2 : Int} (_ : n2 = iI z2) {n3 : Int32} {z3 : Int} (_ : n3 = iI z3), Sj (fun x : Unit => x) (n_k8 z0 n1 n2 n3) (k8 z0 z1 z2 z3)) (x1 : Nat) {n_x3 : Int32} {x3 : Int} (e_x3 : n_x3 = iI x3) {n_x4 : Int32} {x4 : Int} (e_x4 : n_x4 = iI x4) {n_x5 : Int32} {x5 : Int} (e_x5 : n_x5 = iI x5) : Sj (fun x : Unit => x) (C1_listStrays_8_st n_k8 x1 n_x3 n_x4 n_x5) (G1_listStrays_8_st k8 x1 x3 x4 x5) := by
  subst e_x3
  subst e_x4
  subst e_x5
  unfold C1_listStrays_8_st G1_listStrays_8_st
  refine sj_b sj_E fun _ => ?_
  refine sj_b sj_G fun v1 => ?_
  refine sj_b sj_N fun v2 => ?_
  refine sj_ig fun h1 => ?_
  refine sj_ig fun h2 => ?_
  refine sj_ig fun h3 => ?_
  refine sj_ig fun h4 => ?_
  refine sj_ite (cLe (eIte (cLt rfl rfl ⟨h1, h2⟩) rfl rfl) rfl ⟨h3, h4⟩) ?_ ?_
  · exact sj_rn
  · refine sj_b sj_E fun _ => ?_
    refine sj_b sj_E fun _ => ?_
    refine sj_b (v_C8_get (200 + (5 * x1)) rfl) fun v3 => ?_
    refine sj_ig fun h5 => ?_
    refine sj_ite (cLe rfl (eLit 0) ⟨h5, (by decide)⟩) ?_ ?_
    · exact (v_C1_listStrays_71 hk8 x1 rfl rfl rfl)
    · refine sj_b (sj_A rfl) fun v4 => ?_
      refine sj_ig fun h6 => ?_
      refine sj_ite (cEq rfl rfl ⟨h6, h5⟩) ?_ ?_
      · refine sj_ig fun h7 => ?_
        refine sj_ig fun h8 => ?_
        refine sj_ite (cLe rfl rfl ⟨h7, h8⟩) ?_ ?_
        · exact (v_C1_listStrays_71 hk8 x1 rfl rfl rfl)
        · exact (v_C1_listStrays_81 hk8 x1 (eAdd rfl (eLn 1)) rfl rfl)
      · exact (v_C1_listStrays_71 hk8 x1 rfl rfl rfl)
def G1_listStrays_8 : Nat → Nat → Int → Int → Int → JM Unit
  | 0 => fun _ _ _ _ => nof
  | n + 1 => fun x1 x3 x4 x5 => G1_listStrays_8_st  (G1_listStrays_8  n) x1 x3 x4 x5
theorem v_C1_listStrays_8  : ∀ (n : Nat) (x1 : Nat) {n_x3 : Int32} {x3 : Int} (e_x3 : n_x3 = iI x3) {n_x4 : Int32} {x4 : Int} (e_x4 : n_x4 = iI x4) {n_x5 : Int32} {x5 : Int} (e_x5 : n_x5 = iI x5), Sj (fun x : Unit => x) (C1_listStrays_8  n x1 n_x3 n_x4 n_x5) (G1_listStrays_8  n x1 x3 x4 x5) := by
  intro n
  induction n with
  | zero => intro x1 n_x3 x3 e_x3 n_x4 x4 e_x4 n_x5 x5 e_x5; exact sj_nf
  | succ n ih => intro x1 n_x3 x3 e_x3 n_x4 x4 e_x4 n_x5 x5 e_x5; exact v_C1_listStrays_8_st  (ih) x1 e_x3 e_x4 e_x5
def G1_listStrays (a1 : Nat) (a2 : Int) : JM Unit :=
  (G1_listStrays_8 LFU a1 a2 (-1) 0)
theorem v_C1_listStrays  (a1 : Nat) {n_a2 : Int32} {a2 : Int} (e_a2 : n_a2 = iI a2) : Sj (fun x : Unit => x) (C1_listStrays  a1 n_a2) (G1_listStrays  a1 a2) := by
  subst e_a2
  unfold C1_listStrays G1_listStrays
  exact (v_C1_listStrays_8 LFU a1 rfl (eLn 1) (eLit 0))
def G1_collate_92 (k10 : Nat → Int → JM Unit) (x1 : Nat) (x2 : Int) : JM Unit :=
  (k10 x1 (x2 + 1))
theorem v_C1_collate_92 {n_k10 : Nat → Int32 → CM Unit} {k10 : Nat → Int → JM Unit} (hk10 : ∀ (z0 : Nat) {n1 : Int32} {z1 : Int} (_ : n1 = iI z1), Sj (fun x : Unit => x) (n_k10 z0 n1) (k10 z0 z1)) (x1 : Nat) {n_x2 : Int32} {x2 : Int} (e_x2 : n_x2 = iI x2) : Sj (fun x : Unit => x) (C1_collate_92 n_k10 x1 n_x2) (G1_collate_92 k10 x1 x2) := by
  subst e_x2
  unfold C1_collate_92 G1_collate_92
  exact (hk10 x1 (eAdd rfl (eLit 1)))
def G1_collate_64 (k10 : Nat → Int → JM Unit) (x1 : Nat) (x2 : Int) (x3 : Int) (x4 : Int) : JM Unit :=
  ig (R32 x3) <|
  if x3 ≤ 0 then ((G1_collate_92 k10 x1 x2)) else (ig (R32 x4) <|
  if x4 = (-1) then ((G1_collate_92 k10 x1 x2)) else (ib (G1_markAt x4) fun v1 =>
  ig (R32 v1) <|
  if v1 = 0 then (ib (jE (4, x1)) fun _ =>
  ib (jE (1, (204 + (5 * x1)))) fun _ =>
  ib (G8_add (204 + (5 * x1)) x2) fun v2 =>
  (G1_collate_92 k10 x1 x2)) else ((G1_collate_92 k10 x1 x2))))
theorem v_C1_collate_64 {n_k10 : Nat → Int32 → CM Unit} {k10 : Nat → Int → JM Unit} (hk10 : ∀ (z0 : Nat) {n1 : Int32} {z1 : Int} (_ : n1 = iI z1), Sj (fun x : Unit => x) (n_k10 z0 n1) (k10 z0 z1)) (x1 : Nat) {n_x2 : Int32} {x2 : Int} (e_x2 : n_x2 = iI x2) {n_x3 : Int32} {x3 : Int} (e_x3 : n_x3 = iI x3) {n_x4 : Int32} {x4 : Int} (e_x4 : n_x4 = iI x4) : Sj (fun x : Unit => x) (C1_collate_64 n_k10 x1 n_x2 n_x3 n_x4) (G1_collate_64 k10 x1 x2 x3 x4) := by
  subst e_x2
  subst e_x3
  subst e_x4
  unfold C1_collate_64 G1_collate_64
  refine sj_ig fun h1 => ?_
  refine sj_ite (cLe rfl (eLit 0) ⟨h1, (by decide)⟩) ?_ ?_
  · exact (v_C1_collate_92 hk10 x1 rfl)
  · refine sj_ig fun h2 => ?_
    refine sj_ite (cEq rfl (eLn 1) ⟨h2, (by decide)⟩) ?_ ?_
    · exact (v_C1_collate_92 hk10 x1 rfl)
    · refine sj_b (v_C1_markAt rfl) fun v1 => ?_
      refine sj_ig fun h3 => ?_
      refine sj_ite (cEq rfl (eLit 0) ⟨h3, (by decide)⟩) ?_ ?_
      · refine sj_b sj_E fun _ => ?_
        refine sj_b sj_E fun _ => ?_
        refine sj_b (v_C8_add (204 + (5 * x1)) rfl) fun v2 => ?_
        exact (v_C1_collate_92 hk10 x1 rfl)
      · exact (v_C1_collate_92 hk10 x1 rfl)
def G1_collate_50 (k10 : Nat → Int → JM Unit) (x1 : Nat) (x2 : Int) (x3 : Int) (x4 : Int) : JM Unit :=
  ig (R32 x3) <|
  if x3 < 2 then ((G1_collate_64 k10 x1 x2 x3 x4)) else (ib (jE (4, x1)) fun _ =>
  ib (jE (1, (202 + (5 * x1)))) fun _ =>
  ib (G8_add (202 + (5 * x1)) x2) fun v1 =>
  (G1_collate_64 k10 x1 x2 x3 x4))
theorem v_C1_collate_50 {n_k10 : Nat → Int32 → CM Unit} {k10 : Nat → Int → JM Unit} (hk10 : ∀ (z0 : Nat) {n1 : Int32} {z1 : Int} (_ : n1 = iI z1), Sj (fun x : Unit => x) (n_k10 z0 n1) (k10 z0 z1)) (x1 : Nat) {n_x2 : Int32} {x2 : Int} (e_x2 : n_x2 = iI x2) {n_x3 : Int32} {x3 : Int} (e_x3 : n_x3 = iI x3) {n_x4 : Int32} {x4 : Int} (e_x4 : n_x4 = iI x4) : Sj (fun x : Unit => x) (C1_collate_50 n_k10 x1 n_x2 n_x3 n_x4) (G1_collate_50 k10 x1 x2 x3 x4) := by
  subst e_x2
  subst e_x3
  subst e_x4
  unfold C1_collate_50 G1_collate_50
  refine sj_ig fun h1 => ?_
  refine sj_ite (cLt rfl (eLit 2) ⟨h1, (by decide)⟩) ?_ ?_
  · exact (v_C1_collate_64 hk10 x1 rfl rfl rfl)
  · refine sj_b sj_E fun _ => ?_
    refine sj_b sj_E fun _ => ?_
    refine sj_b (v_C8_add (202 + (5 * x1)) rfl) fun v1 => ?_
    exact (v_C1_collate_64 hk10 x1 rfl rfl rfl)
def G1_collate_98 (x1 : Nat) : JM Unit :=
  ib (jE (4, x1)) fun _ =>
  ib (G1_measureReach (200 + (5 * x1))) fun v1 =>
  ib (G1_listStrays x1 v1) fun _ =>
  jret ()
theorem v_C1_collate_98  (x1 : Nat) : Sj (fun x : Unit => x) (C1_collate_98  x1) (G1_collate_98  x1) := by
  unfold C1_collate_98 G1_collate_98
  refine sj_b sj_E fun _ => ?_
  refine sj_b (v_C1_measureReach (200 + (5 * x1))) fun v1 => ?_
  refine sj_b (v_C1_listStrays x1 rfl) fun _ => ?_
  exact sj_rn
def G1_collate_10_st (k10 : Nat → Int → JM Unit) (x1 : Nat) (x2 : Int) : JM Unit :=
  ib (jR x1) fun v1 =>
  ib (jE (3, v1)) fun _ =>
  ib (G0_leafCount v1) fun v2 =>
  ig (R32 v2) <|
  ig (R32 x2) <|
  if v2 ≤ x2 then ((G1_collate_98 x1)) else (ib (G1_markAt x2) fun v3 =>
  ib (jR x1) fun v4 =>
  ib (jE (3, v4)) fun _ =>
  ib (G0_conjugateOf v4 x2) fun v5 =>
  ig (R32 v3) <|
  if v3 = 0 then (ib (jE (4, x1)) fun _ =>
  ib (jE (1, (201 + (5 * x1)))) fun _ =>
  ib (G8_add (201 + (5 * x1)) x2) fun v6 =>
  (G1_collate_50 k10 x1 x2 v3 v5)) else ((G1_collate_50 k10 x1 x2 v3 v5)))
theorem v_C1_collate_10_st {n_k10 : Nat → Int32 → CM Unit} {k10 : Nat → Int → JM Unit} (hk10 : ∀ (z0 : Nat) {n1 : Int32} {z1 : Int} (_ : n1 = iI z1), Sj (fun x : Unit => x) (n_k10 z0 n1) (k10 z0 z1)) (x1 : Nat) {n_x2 : Int32} {x2 : Int} (e_x2 : n_x2 = iI x2) : Sj (fun x : Unit => x) (C1_collate_10_st n_k10 x1 n_x2) (G1_collate_10_st k10 x1 x2) := by
  subst e_x2
  unfold C1_collate_10_st G1_collate_10_st
  refine sj_b sj_R fun v1 => ?_
  refine sj_b sj_E fun _ => ?_
  refine sj_b (v_C0_leafCount v1) fun v2 => ?_
  refine sj_ig fun h1 => ?_
  refine sj_ig fun h2 => ?_
  refine sj_ite (cLe rfl rfl ⟨h1, h2⟩) ?_ ?_
  · exact (v_C1_collate_98 x1)
  · refine sj_b (v_C1_markAt rfl) fun v3 => ?_
    refine sj_b sj_R fun v4 => ?_
    refine sj_b sj_E fun _ => ?_
    refine sj_b (v_C0_conjugateOf v4 rfl) fun v5 => ?_
    refine sj_ig fun h3 => ?_
    refine sj_ite (cEq rfl (eLit 0) ⟨h3, (by decide)⟩) ?_ ?_
    · refine sj_b sj_E fun _ => ?_
      refine sj_b sj_E fun _ => ?_
      refine sj_b (v_C8_add (201 + (5 * x1)) rfl) fun v6 => ?_
      exact (v_C1_collate_50 hk10 x1 rfl rfl rfl)
    · exact (v_C1_collate_50 hk10 x1 rfl rfl rfl)
def G1_collate_10 : Nat → Nat → Int → JM Unit
  | 0 => fun _ _ => nof
  | n + 1 => fun x1 x2 => G1_collate_10_st  (G1_collate_10  n) x1 x2
theorem v_C1_collate_10  : ∀ (n : Nat) (x1 : Nat) {n_x2 : Int32} {x2 : Int} (e_x2 : n_x2 = iI x2), Sj (fun x : Unit => x) (C1_collate_10  n x1 n_x2) (G1_collate_10  n x1 x2) := by
  intro n
  induction n with
  | zero => intro x1 n_x2 x2 e_x2; exact sj_nf
  | succ n ih => intro x1 n_x2 x2 e_x2; exact v_C1_collate_10_st  (ih) x1 e_x2
def G1_collate (a1 : Nat) : JM Unit :=
  ib (jE (4, a1)) fun _ =>
  ib (G1_countEntries (200 + (5 * a1))) fun _ =>
  (G1_collate_10 LFU a1 0)
theorem v_C1_collate  (a1 : Nat) : Sj (fun x : Unit => x) (C1_collate  a1) (G1_collate  a1) := by
  unfold C1_collate G1_collate
  refine sj_b sj_E fun _ => ?_
  refine sj_b (v_C1_countEntries (200 + (5 * a1))) fun _ => ?_
  exact (v_C1_collate_10 LFU a1 (eLit 0))
def G9_writeHead_20 (x1 : Nat) : JM Unit :=
  ib (jXs x1) fun _ =>
  jret ()
theorem v_C9_writeHead_20  (x1 : Nat) : Sj (fun x : Unit => x) (C9_writeHead_20  x1) (G9_writeHead_20  x1) := by
  unfold C9_writeHead_20 G9_writeHead_20
  refine sj_b sj_Xs fun _ => ?_
  exact sj_rn
def G9_writeHead (a1 : Nat) : JM Unit :=
  ib jXl fun v1 =>
  ig (R32 v1) <|
  if v1 ≤ 0 then ((G9_writeHead_20 a1)) else (ib (jXs 6) fun _ =>
  (G9_writeHead_20 a1))
theorem v_C9_writeHead  (a1 : Nat) : Sj (fun x : Unit => x) (C9_writeHead  a1) (G9_writeHead  a1) := by
  unfold C9_writeHead G9_writeHead
  refine sj_b sj_Xl fun v1 => ?_
  refine sj_ig fun h1 => ?_
  refine sj_ite (cLe rfl (eLit 0) ⟨h1, (by decide)⟩) ?_ ?_
  · exact (v_C9_writeHead_20 a1)
  · refine sj_b sj_Xs fun _ => ?_
    exact (v_C9_writeHead_20 a1)
def G9_writeName (a1 : Nat) (a2 : Int) : JM Unit :=
  ib (jE (3, a1)) fun _ =>
  ib (G0_signAt a1 a2) fun v1 =>
  ib (G9_writeSign v1) fun _ =>
  ib (jE (3, a1)) fun _ =>
  ib (jE (1, (101 + (4 * a1)))) fun _ =>
  ib (G8_get (101 + (4 * a1)) a2) fun v2 =>
  ib (jXi v2) fun _ =>
  ib (jE (3, a1)) fun _ =>
  ib (jE (1, (103 + (4 * a1)))) fun _ =>
  ib (G8_get (103 + (4 * a1)) a2) fun v3 =>
  ig (R32 v3) <|
  if v3 ≤ 0 then (jret ()) else (ib (jXc 43) fun _ =>
  ib (jXi v3) fun _ =>
  jret ())
theorem v_C9_writeName  (a1 : Nat) {n_a2 : Int32} {a2 : Int} (e_a2 : n_a2 = iI a2) : Sj (fun x : Unit => x) (C9_writeName  a1 n_a2) (G9_writeName  a1 a2) := by
  subst e_a2
  unfold C9_writeName G9_writeName
  refine sj_b sj_E fun _ => ?_
  refine sj_b (v_C0_signAt a1 rfl) fun v1 => ?_
  refine sj_b (v_C9_writeSign rfl) fun _ => ?_
  refine sj_b sj_E fun _ => ?_
  refine sj_b sj_E fun _ => ?_
  refine sj_b (v_C8_get (101 + (4 * a1)) rfl) fun v2 => ?_
  refine sj_b (sj_Xi rfl) fun _ => ?_
  refine sj_b sj_E fun _ => ?_
  refine sj_b sj_E fun _ => ?_
  refine sj_b (v_C8_get (103 + (4 * a1)) rfl) fun v3 => ?_
  refine sj_ig fun h1 => ?_
  refine sj_ite (cLe rfl (eLit 0) ⟨h1, (by decide)⟩) ?_ ?_
  · exact sj_rn
  · refine sj_b (sj_Xc (eLit 43)) fun _ => ?_
    refine sj_b (sj_Xi rfl) fun _ => ?_
    exact sj_rn
def G9_writeRuns_121 (k19 : Nat → Nat → Int → Int → JM Unit) (x2 : Nat) (x3 : Nat) (x4 : Int) (x5 : Int) : JM Unit :=
  (k19 x2 x3 x4 (x5 + 1))
theorem v_C9_writeRuns_121 {n_k19 : Nat → Nat → Int32 → Int32 → CM Unit} {k19 : Nat → Nat → Int → Int → JM Unit} (hk19 : ∀ (z0 : Nat) (z1 : Nat) {n2 : Int32} {z2 : Int} (_ : n2 = iI z2) {n3 : Int32} {z3 : Int} (_ : n3 = iI z3), Sj (fun x : Unit => x) (n_k19 z0 z1 n2 n3) (k19 z0 z1 z2 z3)) (x2 : Nat) (x3 : Nat) {n_x4 : Int32} {x4 : Int} (e_x4 : n_x4 = iI x4) {n_x5 : Int32} {x5 : Int} (e_x5 : n_x5 = iI x5) : Sj (fun x : Unit => x) (C9_writeRuns_121 n_k19 x2 x3 n_x4 n_x5) (G9_writeRuns_121 k19 x2 x3 x4 x5) := by
  subst e_x4
  subst e_x5
  unfold C9_writeRuns_121 G9_writeRuns_121
  exact (hk19 x2 x3 rfl (eAdd rfl (eLit 1)))
def G9_writeRuns_115 (k19 : Nat → Nat → Int → Int → JM Unit) (x2 : Nat) (x3 : Nat) (x5 : Int) : JM Unit :=
  (G9_writeRuns_121 k19 x2 x3 (x5 + 1) x5)
theorem v_C9_writeRuns_115 {n_k19 : Nat → Nat → Int32 → Int32 → CM Unit} {k19 : Nat → Nat → Int → Int → JM Unit} (hk19 : ∀ (z0 : Nat) (z1 : Nat) {n2 : Int32} {z2 : Int} (_ : n2 = iI z2) {n3 : Int32} {z3 : Int} (_ : n3 = iI z3), Sj (fun x : Unit => x) (n_k19 z0 z1 n2 n3) (k19 z0 z1 z2 z3)) (x2 : Nat) (x3 : Nat) {n_x5 : Int32} {x5 : Int} (e_x5 : n_x5 = iI x5) : Sj (fun x : Unit => x) (C9_writeRuns_115 n_k19 x2 x3 n_x5) (G9_writeRuns_115 k19 x2 x3 x5) := by
  subst e_x5
  unfold C9_writeRuns_115 G9_writeRuns_115
  exact (v_C9_writeRuns_121 hk19 x2 x3 (eAdd rfl (eLit 1)) rfl)
def G9_writeRuns_76 (k19 : Nat → Nat → Int → Int → JM Unit) (x2 : Nat) (x3 : Nat) (x4 : Int) (x5 : Int) : JM Unit :=
  ib (jE (1, x3)) fun _ =>
  ib (G8_get x3 x4) fun v1 =>
  ib (G9_writeName x2 v1) fun _ =>
  ig (R32 x5) <|
  ig (R32 x4) <|
  if x5 ≤ x4 then ((G9_writeRuns_115 k19 x2 x3 x5)) else (ib (jXc 45) fun _ =>
  ib (jE (1, x3)) fun _ =>
  ib (G8_get x3 x5) fun v2 =>
  ib (G9_writeName x2 v2) fun _ =>
  (G9_writeRuns_115 k19 x2 x3 x5))
theorem v_C9_writeRuns_76 {n_k19 : Nat → Nat → Int32 → Int32 → CM Unit} {k19 : Nat → Nat → Int → Int → JM Unit} (hk19 : ∀ (z0 : Nat) (z1 : Nat) {n2 : Int32} {z2 : Int} (_ : n2 = iI z2) {n3 : Int32} {z3 : Int} (_ : n3 = iI z3), Sj (fun x : Unit => x) (n_k19 z0 z1 n2 n3) (k19 z0 z1 z2 z3)) (x2 : Nat) (x3 : Nat) {n_x4 : Int32} {x4 : Int} (e_x4 : n_x4 = iI x4) {n_x5 : Int32} {x5 : Int} (e_x5 : n_x5 = iI x5) : Sj (fun x : Unit => x) (C9_writeRuns_76 n_k19 x2 x3 n_x4 n_x5) (G9_writeRuns_76 k19 x2 x3 x4 x5) := by
  subst e_x4
  subst e_x5
  unfold C9_writeRuns_76 G9_writeRuns_76
  refine sj_b sj_E fun _ => ?_
  refine sj_b (v_C8_get x3 rfl) fun v1 => ?_
  refine sj_b (v_C9_writeName x2 rfl) fun _ => ?_
  refine sj_ig fun h1 => ?_
  refine sj_ig fun h2 => ?_
  refine sj_ite (cLe rfl rfl ⟨h1, h2⟩) ?_ ?_
  · exact (v_C9_writeRuns_115 hk19 x2 x3 rfl)
  · refine sj_b (sj_Xc (eLit 45)) fun _ => ?_
    refine sj_b sj_E fun _ => ?_
    refine sj_b (v_C8_get x3 rfl) fun v2 => ?_
    refine sj_b (v_C9_writeName x2 rfl) fun _ => ?_
    exact (v_C9_writeRuns_115 hk19 x2 x3 rfl)
def G9_writeRuns_61 (k19 : Nat → Nat → Int → Int → JM Unit) (x2 : Nat) (x3 : Nat) (x4 : Int) (x5 : Int) : JM Unit :=
  ig (R32 x4) <|
  if x4 ≤ 0 then ((G9_writeRuns_76 k19 x2 x3 x4 x5)) else (ib (jXs 7) fun _ =>
  (G9_writeRuns_76 k19 x2 x3 x4 x5))
theorem v_C9_writeRuns_61 {n_k19 : Nat → Nat → Int32 → Int32 → CM Unit} {k19 : Nat → Nat → Int → Int → JM Unit} (hk19 : ∀ (z0 : Nat) (z1 : Nat) {n2 : Int32} {z2 : Int} (_ : n2 = iI z2) {n3 : Int32} {z3 : Int} (_ : n3 = iI z3), Sj (fun x : Unit => x) (n_k19 z0 z1 n2 n3) (k19 z0 z1 z2 z3)) (x2 : Nat) (x3 : Nat) {n_x4 : Int32} {x4 : Int} (e_x4 : n_x4 = iI x4) {n_x5 : Int32} {x5 : Int} (e_x5 : n_x5 = iI x5) : Sj (fun x : Unit => x) (C9_writeRuns_61 n_k19 x2 x3 n_x4 n_x5) (G9_writeRuns_61 k19 x2 x3 x4 x5) := by
  subst e_x4
  subst e_x5
  unfold C9_writeRuns_61 G9_writeRuns_61
  refine sj_ig fun h1 => ?_
  refine sj_ite (cLe rfl (eLit 0) ⟨h1, (by decide)⟩) ?_ ?_
  · exact (v_C9_writeRuns_76 hk19 x2 x3 rfl rfl)
  · refine sj_b sj_Xs fun _ => ?_
    exact (v_C9_writeRuns_76 hk19 x2 x3 rfl rfl)
def G9_writeRuns_19_st (k19 : Nat → Nat → Int → Int → JM Unit) (x2 : Nat) (x3 : Nat) (x4 : Int) (x5 : Int) : JM Unit :=
  ib (jG 1 x3) fun v1 =>
  ig (R32 v1) <|
  ig (R32 x5) <|
  if v1 ≤ x5 then (jret ()) else (ib (jG 1 x3) fun v2 =>
  ig (R32 v2) <|
  ig (R32 (x5 + 1)) <|
  if v2 ≤ (x5 + 1) then ((G9_writeRuns_61 k19 x2 x3 x4 x5)) else (ib (jE (1, x3)) fun _ =>
  ib (G8_get x3 (x5 + 1)) fun v3 =>
  ib (jE (1, x3)) fun _ =>
  ib (G8_get x3 x5) fun v4 =>
  ig (R32 v3) <|
  ig (R32 (v4 + 1)) <|
  if v3 = (v4 + 1) then ((G9_writeRuns_121 k19 x2 x3 x4 x5)) else ((G9_writeRuns_61 k19 x2 x3 x4 x5))))
theorem v_C9_writeRuns_19_st {n_k19 : Nat → Nat → Int32 → Int32 → CM Unit} {k19 : Nat → Nat → Int → Int → JM Unit} (hk19 : ∀ (z0 : Nat) (z1 : Nat) {n2 : Int32} {z2 : Int} (_ : n2 = iI z2) {n3 : Int32} {z3 : Int} (_ : n3 = iI z3), Sj (fun x : Unit => x) (n_k19 z0 z1 n2 n3) (k19 z0 z1 z2 z3)) (x2 : Nat) (x3 : Nat) {n_x4 : Int32} {x4 : Int} (e_x4 : n_x4 = iI x4) {n_x5 : Int32} {x5 : Int} (e_x5 : n_x5 = iI x5) : Sj (fun x : Unit => x) (C9_writeRuns_19_st n_k19 x2 x3 n_x4 n_x5) (G9_writeRuns_19_st k19 x2 x3 x4 x5) := by
  subst e_x4
  subst e_x5
  unfold C9_writeRuns_19_st G9_writeRuns_19_st
  refine sj_b sj_G fun v1 => ?_
  refine sj_ig fun h1 => ?_
  refine sj_ig fun h2 => ?_
  refine sj_ite (cLe rfl rfl ⟨h1, h2⟩) ?_ ?_
  · exact sj_rn
  · refine sj_b sj_G fun v2 => ?_
    refine sj_ig fun h3 => ?_
    refine sj_ig fun h4 => ?_
    refine sj_ite (cLe rfl (eAdd rfl (eLit 1)) ⟨h3, h4⟩) ?_ ?_
    · exact (v_C9_writeRuns_61 hk19 x2 x3 rfl rfl)
    · refine sj_b sj_E fun _ => ?_
      refine sj_b (v_C8_get x3 (eAdd rfl (eLit 1))) fun v3 => ?_
      refine sj_b sj_E fun _ => ?_
      refine sj_b (v_C8_get x3 rfl) fun v4 => ?_
      refine sj_ig fun h5 => ?_
      refine sj_ig fun h6 => ?_
      refine sj_ite (cEq rfl (eAdd rfl (eLit 1)) ⟨h5, h6⟩) ?_ ?_
      · exact (v_C9_writeRuns_121 hk19 x2 x3 rfl rfl)
      · exact (v_C9_writeRuns_61 hk19 x2 x3 rfl rfl)
def G9_writeRuns_19 : Nat → Nat → Nat → Int → Int → JM Unit
  | 0 => fun _ _ _ _ => nof
  | n + 1 => fun x2 x3 x4 x5 => G9_writeRuns_19_st  (G9_writeRuns_19  n) x2 x3 x4 x5
theorem v_C9_writeRuns_19  : ∀ (n : Nat) (x2 : Nat) (x3 : Nat) {n_x4 : Int32} {x4 : Int} (e_x4 : n_x4 = iI x4) {n_x5 : Int32} {x5 : Int} (e_x5 : n_x5 = iI x5), Sj (fun x : Unit => x) (C9_writeRuns_19  n x2 x3 n_x4 n_x5) (G9_writeRuns_19  n x2 x3 x4 x5) := by
  intro n
  induction n with
  | zero => intro x2 x3 n_x4 x4 e_x4 n_x5 x5 e_x5; exact sj_nf
  | succ n ih => intro x2 x3 n_x4 x4 e_x4 n_x5 x5 e_x5; exact v_C9_writeRuns_19_st  (ih) x2 x3 e_x4 e_x5
def G9_writeRuns (a1 : Nat) (a2 : Nat) (a3 : Nat) : JM Unit :=
  ib (jG 1 a3) fun v1 =>
  ig (R32 v1) <|
  if v1 = 0 then (jret ()) else (ib (G9_writeHead a1) fun _ =>
  (G9_writeRuns_19 LFU a2 a3 0 0))
theorem v_C9_writeRuns  (a1 : Nat) (a2 : Nat) (a3 : Nat) : Sj (fun x : Unit => x) (C9_writeRuns  a1 a2 a3) (G9_writeRuns  a1 a2 a3) := by
  unfold C9_writeRuns G9_writeRuns
  refine sj_b sj_G fun v1 => ?_
  refine sj_ig fun h1 => ?_
  refine sj_ite (cEq rfl (eLit 0) ⟨h1, (by decide)⟩) ?_ ?_
  · exact sj_rn
  · refine sj_b (v_C9_writeHead a1) fun _ => ?_
    exact (v_C9_writeRuns_19 LFU a2 a3 (eLit 0) (eLit 0))
def G9_writeMoved_44 (k19 : Nat → Int → JM Unit) (x1 : Nat) (x2 : Int) : JM Unit :=
  ib (jR x1) fun v1 =>
  ib (jE (4, x1)) fun _ =>
  ib (jE (4, x1)) fun _ =>
  ib (jE (1, (203 + (5 * x1)))) fun _ =>
  ib (G8_get (203 + (5 * x1)) x2) fun v2 =>
  ib (jE (1, (200 + (5 * x1)))) fun _ =>
  ib (G8_get (200 + (5 * x1)) v2) fun v3 =>
  ib (G9_writeName v1 v3) fun _ =>
  (k19 x1 (x2 + 1))
theorem v_C9_writeMoved_44 {n_k19 : Nat → Int32 → CM Unit} {k19 : Nat → Int → JM Unit} (hk19 : ∀ (z0 : Nat) {n1 : Int32} {z1 : Int} (_ : n1 = iI z1), Sj (fun x : Unit => x) (n_k19 z0 n1) (k19 z0 z1)) (x1 : Nat) {n_x2 : Int32} {x2 : Int} (e_x2 : n_x2 = iI x2) : Sj (fun x : Unit => x) (C9_writeMoved_44 n_k19 x1 n_x2) (G9_writeMoved_44 k19 x1 x2) := by
  subst e_x2
  unfold C9_writeMoved_44 G9_writeMoved_44
  refine sj_b sj_R fun v1 => ?_
  refine sj_b sj_E fun _ => ?_
  refine sj_b sj_E fun _ => ?_
  refine sj_b sj_E fun _ => ?_
  refine sj_b (v_C8_get (203 + (5 * x1)) rfl) fun v2 => ?_
  refine sj_b sj_E fun _ => ?_
  refine sj_b (v_C8_get (200 + (5 * x1)) rfl) fun v3 => ?_
  refine sj_b (v_C9_writeName v1 rfl) fun _ => ?_
  exact (hk19 x1 (eAdd rfl (eLit 1)))
def G9_writeMoved_19_st (k19 : Nat → Int → JM Unit) (x1 : Nat) (x2 : Int) : JM Unit :=
  ib (jE (4, x1)) fun _ =>
  ib (jG 1 (203 + (5 * x1))) fun v1 =>
  ig (R32 v1) <|
  ig (R32 x2) <|
  if v1 ≤ x2 then (jret ()) else (if x2 ≤ 0 then ((G9_writeMoved_44 k19 x1 x2)) else (ib (jXs 7) fun _ =>
  (G9_writeMoved_44 k19 x1 x2)))
theorem v_C9_writeMoved_19_st {n_k19 : Nat → Int32 → CM Unit} {k19 : Nat → Int → JM Unit} (hk19 : ∀ (z0 : Nat) {n1 : Int32} {z1 : Int} (_ : n1 = iI z1), Sj (fun x : Unit => x) (n_k19 z0 n1) (k19 z0 z1)) (x1 : Nat) {n_x2 : Int32} {x2 : Int} (e_x2 : n_x2 = iI x2) : Sj (fun x : Unit => x) (C9_writeMoved_19_st n_k19 x1 n_x2) (G9_writeMoved_19_st k19 x1 x2) := by
  subst e_x2
  unfold C9_writeMoved_19_st G9_writeMoved_19_st
  refine sj_b sj_E fun _ => ?_
  refine sj_b sj_G fun v1 => ?_
  refine sj_ig fun h1 => ?_
  refine sj_ig fun h2 => ?_
  refine sj_ite (cLe rfl rfl ⟨h1, h2⟩) ?_ ?_
  · exact sj_rn
  · refine sj_ite (cLe rfl (eLit 0) ⟨h2, (by decide)⟩) ?_ ?_
    · exact (v_C9_writeMoved_44 hk19 x1 rfl)
    · refine sj_b sj_Xs fun _ => ?_
      exact (v_C9_writeMoved_44 hk19 x1 rfl)
def G9_writeMoved_19 : Nat → Nat → Int → JM Unit
  | 0 => fun _ _ => nof
  | n + 1 => fun x1 x2 => G9_writeMoved_19_st  (G9_writeMoved_19  n) x1 x2
theorem v_C9_writeMoved_19  : ∀ (n : Nat) (x1 : Nat) {n_x2 : Int32} {x2 : Int} (e_x2 : n_x2 = iI x2), Sj (fun x : Unit => x) (C9_writeMoved_19  n x1 n_x2) (G9_writeMoved_19  n x1 x2) := by
  intro n
  induction n with
  | zero => intro x1 n_x2 x2 e_x2; exact sj_nf
  | succ n ih => intro x1 n_x2 x2 e_x2; exact v_C9_writeMoved_19_st  (ih) x1 e_x2
def G9_writeMoved (a1 : Nat) : JM Unit :=
  ib (jE (4, a1)) fun _ =>
  ib (jG 1 (203 + (5 * a1))) fun v1 =>
  ig (R32 v1) <|
  if v1 = 0 then (jret ()) else (ib (G9_writeHead 9) fun _ =>
  (G9_writeMoved_19 LFU a1 0))
theorem v_C9_writeMoved  (a1 : Nat) : Sj (fun x : Unit => x) (C9_writeMoved  a1) (G9_writeMoved  a1) := by
  unfold C9_writeMoved G9_writeMoved
  refine sj_b sj_E fun _ => ?_
  refine sj_b sj_G fun v1 => ?_
  refine sj_ig fun h1 => ?_
  refine sj_ite (cEq rfl (eLit 0) ⟨h1, (by decide)⟩) ?_ ?_
  · exact sj_rn
  · refine sj_b (v_C9_writeHead 9) fun _ => ?_
    exact (v_C9_writeMoved_19 LFU a1 (eLit 0))
def G7_readsName : JM Int :=
  ib G7_begin fun _ =>
  ib (G7_readsOneName 0) fun v1 =>
  ig (R32 v1) <|
  if v1 = 0 then (jret 0) else (ib (G7_takes 0) fun v2 =>
  ig (R32 v2) <|
  if v2 = 0 then (jret 0) else (jret 1))
theorem v_C7_readsName  : Sj iI (C7_readsName  ) (G7_readsName  ) := by
  unfold C7_readsName G7_readsName
  refine sj_b v_C7_begin fun _ => ?_
  refine sj_b (v_C7_readsOneName (eLit 0)) fun v1 => ?_
  refine sj_ig fun h1 => ?_
  refine sj_ite (cEq rfl (eLit 0) ⟨h1, (by decide)⟩) ?_ ?_
  · exact sj_re (eLit 0)
  · refine sj_b (v_C7_takes (eLit 0)) fun v2 => ?_
    refine sj_ig fun h2 => ?_
    refine sj_ite (cEq rfl (eLit 0) ⟨h2, (by decide)⟩) ?_ ?_
    · exact sj_re (eLit 0)
    · exact sj_re (eLit 1)
def G11_find (a1 : Int) : JM Int :=
  ib (G11_bookAt a1) fun v1 =>
  jcon v1 (ib (G10_cutTo 0) fun _ =>
  ib (G11_refuse 1) fun v3 =>
  jret v3) (fun i2 =>
  ib (jP 10 0 0) fun _ =>
  ib G7_readsName fun v4 =>
  ib (G10_cutTo 0) fun _ =>
  ig (R32 v4) <|
  if v4 = 0 then (ib (G11_refuse 2) fun v5 =>
  jret v5) else (ib (jE (3, i2)) fun _ =>
  ib (G0_placeOf i2 0) fun v6 =>
  ib (G11_answer v6) fun v7 =>
  jret v7))
theorem v_C11_find  {n_a1 : Int32} {a1 : Int} (e_a1 : n_a1 = iI a1) : Sj iI (C11_find  n_a1) (G11_find  a1) := by
  subst e_a1
  unfold C11_find G11_find
  refine sj_b (v_C11_bookAt rfl) fun v1 => ?_
  refine sj_con ?_ (fun i2 => ?_)
  · refine sj_b (v_C10_cutTo (eLit 0)) fun _ => ?_
    refine sj_b (v_C11_refuse (eLit 1)) fun v3 => ?_
    exact sj_re rfl
  · refine sj_b (sj_P (eLit 0)) fun _ => ?_
    refine sj_b v_C7_readsName fun v4 => ?_
    refine sj_b (v_C10_cutTo (eLit 0)) fun _ => ?_
    refine sj_ig fun h1 => ?_
    refine sj_ite (cEq rfl (eLit 0) ⟨h1, (by decide)⟩) ?_ ?_
    · refine sj_b (v_C11_refuse (eLit 2)) fun v5 => ?_
      exact sj_re rfl
    · refine sj_b sj_E fun _ => ?_
      refine sj_b (v_C0_placeOf i2 (eLit 0)) fun v6 => ?_
      refine sj_b (v_C11_answer rfl) fun v7 => ?_
      exact sj_re rfl
def G11_place : JM Int :=
  ib (jG 5 0) fun v1 =>
  jret v1
theorem v_C11_place  : Sj iI (C11_place  ) (G11_place  ) := by
  unfold C11_place G11_place
  refine sj_b sj_G fun v1 => ?_
  exact sj_re rfl
def G11_fault : JM Int :=
  ib (jG 10 0) fun v1 =>
  jret v1
theorem v_C11_fault  : Sj iI (C11_fault  ) (G11_fault  ) := by
  unfold C11_fault G11_fault
  refine sj_b sj_G fun v1 => ?_
  exact sj_re rfl
def G11_count (a1 : Int) : JM Int :=
  ig (R32 a1) <|
  if a1 = 0 then (ib (jG 8 0) fun v1 =>
  ib (G11_answer v1) fun v2 =>
  jret v2) else (if a1 = 1 then (ib (jG 9 0) fun v3 =>
  ib (G11_answer v3) fun v4 =>
  jret v4) else (if a1 = 2 then (ib (jG 2 0) fun v5 =>
  ib (G11_answer v5) fun v6 =>
  jret v6) else (ib (G11_refuse 3) fun v7 =>
  jret v7)))
theorem v_C11_count  {n_a1 : Int32} {a1 : Int} (e_a1 : n_a1 = iI a1) : Sj iI (C11_count  n_a1) (G11_count  a1) := by
  subst e_a1
  unfold C11_count G11_count
  refine sj_ig fun h1 => ?_
  refine sj_ite (cEq rfl (eLit 0) ⟨h1, (by decide)⟩) ?_ ?_
  · refine sj_b sj_G fun v1 => ?_
    refine sj_b (v_C11_answer rfl) fun v2 => ?_
    exact sj_re rfl
  · refine sj_ite (cEq rfl (eLit 1) ⟨h1, (by decide)⟩) ?_ ?_
    · refine sj_b sj_G fun v3 => ?_
      refine sj_b (v_C11_answer rfl) fun v4 => ?_
      exact sj_re rfl
    · refine sj_ite (cEq rfl (eLit 2) ⟨h1, (by decide)⟩) ?_ ?_
      · refine sj_b sj_G fun v5 => ?_
        refine sj_b (v_C11_answer rfl) fun v6 => ?_
        exact sj_re rfl
      · refine sj_b (v_C11_refuse (eLit 3)) fun v7 => ?_
        exact sj_re rfl
def G11_gatherings (a1 : Int) : JM Int :=
  ib (G11_bookAt a1) fun v1 =>
  jcon v1 (ib (G11_refuse 1) fun v3 =>
  jret v3) (fun i2 =>
  ib (jE (3, i2)) fun _ =>
  ib (jG 6 (i2 + 1)) fun v4 =>
  ib (G11_answer v4) fun v5 =>
  jret v5)
theorem v_C11_gatherings  {n_a1 : Int32} {a1 : Int} (e_a1 : n_a1 = iI a1) : Sj iI (C11_gatherings  n_a1) (G11_gatherings  a1) := by
  subst e_a1
  unfold C11_gatherings G11_gatherings
  refine sj_b (v_C11_bookAt rfl) fun v1 => ?_
  refine sj_con ?_ (fun i2 => ?_)
  · refine sj_b (v_C11_refuse (eLit 1)) fun v3 => ?_
    exact sj_re rfl
  · refine sj_b sj_E fun _ => ?_
    refine sj_b sj_G fun v4 => ?_
    refine sj_b (v_C11_answer rfl) fun v5 => ?_
    exact sj_re rfl
def G0_cutOf_38 (k4 : Nat → Int → Int → Int → JM Int) (this : Nat) (x1 : Int) (x2 : Int) (x3 : Int) : JM Int :=
  (k4 this x1 x2 (x3 + 1))
theorem v_C0_cutOf_38 {n_k4 : Nat → Int32 → Int32 → Int32 → CM Int32} {k4 : Nat → Int → Int → Int → JM Int} (hk4 : ∀ (z0 : Nat) {n1 : Int32} {z1 : Int} (_ : n1 = iI z1) {n2 : Int32} {z2 : Int} (_ : n2 = iI z2) {n3 : Int32} {z3 : Int} (_ : n3 = iI z3), Sj iI (n_k4 z0 n1 n2 n3) (k4 z0 z1 z2 z3)) (this : Nat) {n_x1 : Int32} {x1 : Int} (e_x1 : n_x1 = iI x1) {n_x2 : Int32} {x2 : Int} (e_x2 : n_x2 = iI x2) {n_x3 : Int32} {x3 : Int} (e_x3 : n_x3 = iI x3) : Sj iI (C0_cutOf_38 n_k4 this n_x1 n_x2 n_x3) (G0_cutOf_38 k4 this x1 x2 x3) := by
  subst e_x1
  subst e_x2
  subst e_x3
  unfold C0_cutOf_38 G0_cutOf_38
  exact (hk4 this rfl rfl (eAdd rfl (eLit 1)))
def G0_cutOf_4_st (k4 : Nat → Int → Int → Int → JM Int) (this : Nat) (x1 : Int) (x2 : Int) (x3 : Int) : JM Int :=
  ib (jE (3, this)) fun _ =>
  ib (jE (2, (this + 1))) fun _ =>
  ib (G6_sizeOf (this + 1) x1) fun v1 =>
  ig (R32 v1) <|
  ig (R32 x3) <|
  if v1 < x3 then (jret x2) else (ib (jE (3, this)) fun _ =>
  ib (jE (3, this)) fun _ =>
  ib (jE (2, (this + 1))) fun _ =>
  ib (G6_slotOf (this + 1) x1 x3) fun v2 =>
  ib (jE (2, (this + 1))) fun _ =>
  ib (G6_isCut (this + 1) v2) fun v3 =>
  ig (R32 v3) <|
  if v3 = 0 then ((G0_cutOf_38 k4 this x1 x2 x3)) else ((G0_cutOf_38 k4 this x1 (x2 + 1) x3)))
theorem v_C0_cutOf_4_st {n_k4 : Nat → Int32 → Int32 → Int32 → CM Int32} {k4 : Nat → Int → Int → Int → JM Int} (hk4 : ∀ (z0 : Nat) {n1 : Int32} {z1 : Int} (_ : n1 = iI z1) {n2 : Int32} {z2 : Int} (_ : n2 = iI z2) {n3 : Int32} {z3 : Int} (_ : n3 = iI z3), Sj iI (n_k4 z0 n1 n2 n3) (k4 z0 z1 z2 z3)) (this : Nat) {n_x1 : Int32} {x1 : Int} (e_x1 : n_x1 = iI x1) {n_x2 : Int32} {x2 : Int} (e_x2 : n_x2 = iI x2) {n_x3 : Int32} {x3 : Int} (e_x3 : n_x3 = iI x3) : Sj iI (C0_cutOf_4_st n_k4 this n_x1 n_x2 n_x3) (G0_cutOf_4_st k4 this x1 x2 x3) := by
  subst e_x1
  subst e_x2
  subst e_x3
  unfold C0_cutOf_4_st G0_cutOf_4_st
  refine sj_b sj_E fun _ => ?_
  refine sj_b sj_E fun _ => ?_
  refine sj_b (v_C6_sizeOf (this + 1) rfl) fun v1 => ?_
  refine sj_ig fun h1 => ?_
  refine sj_ig fun h2 => ?_
  refine sj_ite (cLt rfl rfl ⟨h1, h2⟩) ?_ ?_
  · exact sj_re rfl
  · refine sj_b sj_E fun _ => ?_
    refine sj_b sj_E fun _ => ?_
    refine sj_b sj_E fun _ => ?_
    refine sj_b (v_C6_slotOf (this + 1) rfl rfl) fun v2 => ?_
    refine sj_b sj_E fun _ => ?_
    refine sj_b (v_C6_isCut (this + 1) rfl) fun v3 => ?_
    refine sj_ig fun h3 => ?_
    refine sj_ite (cEq rfl (eLit 0) ⟨h3, (by decide)⟩) ?_ ?_
    · exact (v_C0_cutOf_38 hk4 this rfl rfl rfl)
    · exact (v_C0_cutOf_38 hk4 this rfl (eAdd rfl (eLit 1)) rfl)
def G0_cutOf_4 : Nat → Nat → Int → Int → Int → JM Int
  | 0 => fun _ _ _ _ => nof
  | n + 1 => fun this x1 x2 x3 => G0_cutOf_4_st  (G0_cutOf_4  n) this x1 x2 x3
theorem v_C0_cutOf_4  : ∀ (n : Nat) (this : Nat) {n_x1 : Int32} {x1 : Int} (e_x1 : n_x1 = iI x1) {n_x2 : Int32} {x2 : Int} (e_x2 : n_x2 = iI x2) {n_x3 : Int32} {x3 : Int} (e_x3 : n_x3 = iI x3), Sj iI (C0_cutOf_4  n this n_x1 n_x2 n_x3) (G0_cutOf_4  n this x1 x2 x3) := by
  intro n
  induction n with
  | zero => intro this n_x1 x1 e_x1 n_x2 x2 e_x2 n_x3 x3 e_x3; exact sj_nf
  | succ n ih => intro this n_x1 x1 e_x1 n_x2 x2 e_x2 n_x3 x3 e_x3; exact v_C0_cutOf_4_st  (ih) this e_x1 e_x2 e_x3
def G0_cutOf (this : Nat) (a1 : Int) : JM Int :=
  (G0_cutOf_4 LFU this a1 0 1)
theorem v_C0_cutOf  (this : Nat) {n_a1 : Int32} {a1 : Int} (e_a1 : n_a1 = iI a1) : Sj iI (C0_cutOf  this n_a1) (G0_cutOf  this a1) := by
  subst e_a1
  unfold C0_cutOf G0_cutOf
  exact (v_C0_cutOf_4 LFU this rfl (eLit 0) (eLit 1))
def G0_leavesOf_17_st (k17 : Nat → Int → Int → Int → JM Int) (this : Nat) (x1 : Int) (x2 : Int) (x3 : Int) : JM Int :=
  ib (jE (3, this)) fun _ =>
  ib (jE (2, (this + 1))) fun _ =>
  ib (G6_sizeOf (this + 1) x1) fun v1 =>
  ig (R32 v1) <|
  ig (R32 x3) <|
  if v1 < x3 then (jret x2) else (ib (jE (3, this)) fun _ =>
  ib (jE (3, this)) fun _ =>
  ib (jE (2, (this + 1))) fun _ =>
  ib (G6_slotOf (this + 1) x1 x3) fun v2 =>
  ib (jE (2, (this + 1))) fun _ =>
  ib (G6_insertedAt (this + 1) v2) fun v3 =>
  (k17 this x1 (x2 + v3) (x3 + 1)))
theorem v_C0_leavesOf_17_st {n_k17 : Nat → Int32 → Int32 → Int32 → CM Int32} {k17 : Nat → Int → Int → Int → JM Int} (hk17 : ∀ (z0 : Nat) {n1 : Int32} {z1 : Int} (_ : n1 = iI z1) {n2 : Int32} {z2 : Int} (_ : n2 = iI z2) {n3 : Int32} {z3 : Int} (_ : n3 = iI z3), Sj iI (n_k17 z0 n1 n2 n3) (k17 z0 z1 z2 z3)) (this : Nat) {n_x1 : Int32} {x1 : Int} (e_x1 : n_x1 = iI x1) {n_x2 : Int32} {x2 : Int} (e_x2 : n_x2 = iI x2) {n_x3 : Int32} {x3 : Int} (e_x3 : n_x3 = iI x3) : Sj iI (C0_leavesOf_17_st n_k17 this n_x1 n_x2 n_x3) (G0_leavesOf_17_st k17 this x1 x2 x3) := by
  subst e_x1
  subst e_x2
  subst e_x3
  unfold C0_leavesOf_17_st G0_leavesOf_17_st
  refine sj_b sj_E fun _ => ?_
  refine sj_b sj_E fun _ => ?_
  refine sj_b (v_C6_sizeOf (this + 1) rfl) fun v1 => ?_
  refine sj_ig fun h1 => ?_
  refine sj_ig fun h2 => ?_
  refine sj_ite (cLt rfl rfl ⟨h1, h2⟩) ?_ ?_
  · exact sj_re rfl
  · refine sj_b sj_E fun _ => ?_
    refine sj_b sj_E fun _ => ?_
    refine sj_b sj_E fun _ => ?_
    refine sj_b (v_C6_slotOf (this + 1) rfl rfl) fun v2 => ?_
    refine sj_b sj_E fun _ => ?_
    refine sj_b (v_C6_insertedAt (this + 1) rfl) fun v3 => ?_
    exact (hk17 this rfl (eAdd rfl rfl) (eAdd rfl (eLit 1)))
def G0_leavesOf_17 : Nat → Nat → Int → Int → Int → JM Int
  | 0 => fun _ _ _ _ => nof
  | n + 1 => fun this x1 x2 x3 => G0_leavesOf_17_st  (G0_leavesOf_17  n) this x1 x2 x3
theorem v_C0_leavesOf_17  : ∀ (n : Nat) (this : Nat) {n_x1 : Int32} {x1 : Int} (e_x1 : n_x1 = iI x1) {n_x2 : Int32} {x2 : Int} (e_x2 : n_x2 = iI x2) {n_x3 : Int32} {x3 : Int} (e_x3 : n_x3 = iI x3), Sj iI (C0_leavesOf_17  n this n_x1 n_x2 n_x3) (G0_leavesOf_17  n this x1 x2 x3) := by
  intro n
  induction n with
  | zero => intro this n_x1 x1 e_x1 n_x2 x2 e_x2 n_x3 x3 e_x3; exact sj_nf
  | succ n ih => intro this n_x1 x1 e_x1 n_x2 x2 e_x2 n_x3 x3 e_x3; exact v_C0_leavesOf_17_st  (ih) this e_x1 e_x2 e_x3
def G0_leavesOf (this : Nat) (a1 : Int) : JM Int :=
  ib (jE (3, this)) fun _ =>
  ib (jE (2, (this + 1))) fun _ =>
  ib (G6_sizeOf (this + 1) a1) fun v1 =>
  ib (jE (3, this)) fun _ =>
  ib (G0_cutOf this a1) fun v2 =>
  (G0_leavesOf_17 LFU this a1 (v1 - v2) 1)
theorem v_C0_leavesOf  (this : Nat) {n_a1 : Int32} {a1 : Int} (e_a1 : n_a1 = iI a1) : Sj iI (C0_leavesOf  this n_a1) (G0_leavesOf  this a1) := by
  subst e_a1
  unfold C0_leavesOf G0_leavesOf
  refine sj_b sj_E fun _ => ?_
  refine sj_b sj_E fun _ => ?_
  refine sj_b (v_C6_sizeOf (this + 1) rfl) fun v1 => ?_
  refine sj_b sj_E fun _ => ?_
  refine sj_b (v_C0_cutOf this rfl) fun v2 => ?_
  exact (v_C0_leavesOf_17 LFU this rfl (eSub rfl rfl) (eLit 1))
def G0_aboutGathering (this : Nat) (a1 : Int) (a2 : Int) : JM Int :=
  ib (jE (3, this)) fun _ =>
  ib (jE (2, (this + 1))) fun _ =>
  ib (G6_signOf (this + 1) a1) fun v1 =>
  ig (R32 a2) <|
  if a2 = 0 then (jret v1) else (if a2 = 1 then (ib (jE (3, this)) fun _ =>
  ib (jE (2, (this + 1))) fun _ =>
  ib (G6_sizeOf (this + 1) v1) fun v2 =>
  jret v2) else (if a2 = 2 then (ib (jE (3, this)) fun _ =>
  ib (G0_leavesOf this v1) fun v3 =>
  jret v3) else (ib (jE (3, this)) fun _ =>
  ib (G0_cutOf this v1) fun v4 =>
  jret v4)))
theorem v_C0_aboutGathering  (this : Nat) {n_a1 : Int32} {a1 : Int} (e_a1 : n_a1 = iI a1) {n_a2 : Int32} {a2 : Int} (e_a2 : n_a2 = iI a2) : Sj iI (C0_aboutGathering  this n_a1 n_a2) (G0_aboutGathering  this a1 a2) := by
  subst e_a1
  subst e_a2
  unfold C0_aboutGathering G0_aboutGathering
  refine sj_b sj_E fun _ => ?_
  refine sj_b sj_E fun _ => ?_
  refine sj_b (v_C6_signOf (this + 1) rfl) fun v1 => ?_
  refine sj_ig fun h1 => ?_
  refine sj_ite (cEq rfl (eLit 0) ⟨h1, (by decide)⟩) ?_ ?_
  · exact sj_re rfl
  · refine sj_ite (cEq rfl (eLit 1) ⟨h1, (by decide)⟩) ?_ ?_
    · refine sj_b sj_E fun _ => ?_
      refine sj_b sj_E fun _ => ?_
      refine sj_b (v_C6_sizeOf (this + 1) rfl) fun v2 => ?_
      exact sj_re rfl
    · refine sj_ite (cEq rfl (eLit 2) ⟨h1, (by decide)⟩) ?_ ?_
      · refine sj_b sj_E fun _ => ?_
        refine sj_b (v_C0_leavesOf this rfl) fun v3 => ?_
        exact sj_re rfl
      · refine sj_b sj_E fun _ => ?_
        refine sj_b (v_C0_cutOf this rfl) fun v4 => ?_
        exact sj_re rfl
def G11_gathering_28 : JM Int :=
  ib (G11_refuse 1) fun v1 =>
  jret v1
theorem v_C11_gathering_28  : Sj iI (C11_gathering_28  ) (G11_gathering_28  ) := by
  unfold C11_gathering_28 G11_gathering_28
  refine sj_b (v_C11_refuse (eLit 1)) fun v1 => ?_
  exact sj_re rfl
def G11_gathering_43 : JM Int :=
  ib (G11_refuse 3) fun v1 =>
  jret v1
theorem v_C11_gathering_43  : Sj iI (C11_gathering_43  ) (G11_gathering_43  ) := by
  unfold C11_gathering_43 G11_gathering_43
  refine sj_b (v_C11_refuse (eLit 3)) fun v1 => ?_
  exact sj_re rfl
def G11_gathering (a1 : Int) (a2 : Int) (a3 : Int) : JM Int :=
  ib (G11_bookAt a1) fun v1 =>
  jcon v1 (G11_gathering_28) (fun i2 =>
  ig (R32 a2) <|
  if a2 < 0 then (G11_gathering_28) else (ib (jE (3, i2)) fun _ =>
  ib (jG 6 (i2 + 1)) fun v3 =>
  ig (R32 v3) <|
  if a2 < v3 then (ig (R32 a3) <|
  if a3 < 0 then (G11_gathering_43) else (if a3 ≤ 3 then (ib (jE (3, i2)) fun _ =>
  ib (G0_aboutGathering i2 a2 a3) fun v4 =>
  ib (G11_answer v4) fun v5 =>
  jret v5) else (G11_gathering_43))) else (G11_gathering_28)))
theorem v_C11_gathering  {n_a1 : Int32} {a1 : Int} (e_a1 : n_a1 = iI a1) {n_a2 : Int32} {a2 : Int} (e_a2 : n_a2 = iI a2) {n_a3 : Int32} {a3 : Int} (e_a3 : n_a3 = iI a3) : Sj iI (C11_gathering  n_a1 n_a2 n_a3) (G11_gathering  a1 a2 a3) := by
  subst e_a1
  subst e_a2
  subst e_a3
  unfold C11_gathering G11_gathering
  refine sj_b (v_C11_bookAt rfl) fun v1 => ?_
  refine sj_con ?_ (fun i2 => ?_)
  · exact v_C11_gathering_28
  · refine sj_ig fun h1 => ?_
    refine sj_ite (cLt rfl (eLit 0) ⟨h1, (by decide)⟩) ?_ ?_
    · exact v_C11_gathering_28
    · refine sj_b sj_E fun _ => ?_
      refine sj_b sj_G fun v3 => ?_
      refine sj_ig fun h2 => ?_
      refine sj_ite (cLt rfl rfl ⟨h1, h2⟩) ?_ ?_
      · refine sj_ig fun h3 => ?_
        refine sj_ite (cLt rfl (eLit 0) ⟨h3, (by decide)⟩) ?_ ?_
        · exact v_C11_gathering_43
        · refine sj_ite (cLe rfl (eLit 3) ⟨h3, (by decide)⟩) ?_ ?_
          · refine sj_b sj_E fun _ => ?_
            refine sj_b (v_C0_aboutGathering i2 rfl rfl) fun v4 => ?_
            refine sj_b (v_C11_answer rfl) fun v5 => ?_
            exact sj_re rfl
          · exact v_C11_gathering_43
      · exact v_C11_gathering_28
def G11_leaves (a1 : Int) : JM Int :=
  ib (G11_bookAt a1) fun v1 =>
  jcon v1 (ib (G11_refuse 1) fun v3 =>
  jret v3) (fun i2 =>
  ib (jE (3, i2)) fun _ =>
  ib (G0_leafCount i2) fun v4 =>
  ib (G11_answer v4) fun v5 =>
  jret v5)
theorem v_C11_leaves  {n_a1 : Int32} {a1 : Int} (e_a1 : n_a1 = iI a1) : Sj iI (C11_leaves  n_a1) (G11_leaves  a1) := by
  subst e_a1
  unfold C11_leaves G11_leaves
  refine sj_b (v_C11_bookAt rfl) fun v1 => ?_
  refine sj_con ?_ (fun i2 => ?_)
  · refine sj_b (v_C11_refuse (eLit 1)) fun v3 => ?_
    exact sj_re rfl
  · refine sj_b sj_E fun _ => ?_
    refine sj_b (v_C0_leafCount i2) fun v4 => ?_
    refine sj_b (v_C11_answer rfl) fun v5 => ?_
    exact sj_re rfl
def G11_bookWithLeaf (a1 : Int) (a2 : Int) : JM (Option Nat) :=
  ib (G11_bookAt a1) fun v1 =>
  jcon v1 (jret none) (fun i2 =>
  ig (R32 a2) <|
  if a2 < 0 then (jret none) else (ib (jE (3, i2)) fun _ =>
  ib (G0_leafCount i2) fun v3 =>
  ig (R32 v3) <|
  if a2 < v3 then (jret (some i2)) else (jret none)))
theorem v_C11_bookWithLeaf  {n_a1 : Int32} {a1 : Int} (e_a1 : n_a1 = iI a1) {n_a2 : Int32} {a2 : Int} (e_a2 : n_a2 = iI a2) : Sj (fun x : Option Nat => x) (C11_bookWithLeaf  n_a1 n_a2) (G11_bookWithLeaf  a1 a2) := by
  subst e_a1
  subst e_a2
  unfold C11_bookWithLeaf G11_bookWithLeaf
  refine sj_b (v_C11_bookAt rfl) fun v1 => ?_
  refine sj_con ?_ (fun i2 => ?_)
  · exact sj_rn
  · refine sj_ig fun h1 => ?_
    refine sj_ite (cLt rfl (eLit 0) ⟨h1, (by decide)⟩) ?_ ?_
    · exact sj_rn
    · refine sj_b sj_E fun _ => ?_
      refine sj_b (v_C0_leafCount i2) fun v3 => ?_
      refine sj_ig fun h2 => ?_
      refine sj_ite (cLt rfl rfl ⟨h1, h2⟩) ?_ ?_
      · exact sj_rn
      · exact sj_rn
def G0_aboutLeaf (this : Nat) (a1 : Int) (a2 : Int) : JM Int :=
  ig (R32 a2) <|
  if a2 = 0 then (ib (jE (3, this)) fun _ =>
  ib (jE (1, (100 + (4 * this)))) fun _ =>
  ib (G8_get (100 + (4 * this)) a1) fun v1 =>
  jret v1) else (if a2 = 1 then (ib (jE (3, this)) fun _ =>
  ib (jE (1, (101 + (4 * this)))) fun _ =>
  ib (G8_get (101 + (4 * this)) a1) fun v2 =>
  jret v2) else (if a2 = 2 then (ib (jE (3, this)) fun _ =>
  ib (jE (1, (102 + (4 * this)))) fun _ =>
  ib (G8_get (102 + (4 * this)) a1) fun v3 =>
  jret v3) else (if a2 = 3 then (ib (jE (3, this)) fun _ =>
  ib (jE (1, (103 + (4 * this)))) fun _ =>
  ib (G8_get (103 + (4 * this)) a1) fun v4 =>
  jret v4) else (ib (jE (3, this)) fun _ =>
  ib (G0_conjugateOf this a1) fun v5 =>
  jret v5))))
theorem v_C0_aboutLeaf  (this : Nat) {n_a1 : Int32} {a1 : Int} (e_a1 : n_a1 = iI a1) {n_a2 : Int32} {a2 : Int} (e_a2 : n_a2 = iI a2) : Sj iI (C0_aboutLeaf  this n_a1 n_a2) (G0_aboutLeaf  this a1 a2) := by
  subst e_a1
  subst e_a2
  unfold C0_aboutLeaf G0_aboutLeaf
  refine sj_ig fun h1 => ?_
  refine sj_ite (cEq rfl (eLit 0) ⟨h1, (by decide)⟩) ?_ ?_
  · refine sj_b sj_E fun _ => ?_
    refine sj_b sj_E fun _ => ?_
    refine sj_b (v_C8_get (100 + (4 * this)) rfl) fun v1 => ?_
    exact sj_re rfl
  · refine sj_ite (cEq rfl (eLit 1) ⟨h1, (by decide)⟩) ?_ ?_
    · refine sj_b sj_E fun _ => ?_
      refine sj_b sj_E fun _ => ?_
      refine sj_b (v_C8_get (101 + (4 * this)) rfl) fun v2 => ?_
      exact sj_re rfl
    · refine sj_ite (cEq rfl (eLit 2) ⟨h1, (by decide)⟩) ?_ ?_
      · refine sj_b sj_E fun _ => ?_
        refine sj_b sj_E fun _ => ?_
        refine sj_b (v_C8_get (102 + (4 * this)) rfl) fun v3 => ?_
        exact sj_re rfl
      · refine sj_ite (cEq rfl (eLit 3) ⟨h1, (by decide)⟩) ?_ ?_
        · refine sj_b sj_E fun _ => ?_
          refine sj_b sj_E fun _ => ?_
          refine sj_b (v_C8_get (103 + (4 * this)) rfl) fun v4 => ?_
          exact sj_re rfl
        · refine sj_b sj_E fun _ => ?_
          refine sj_b (v_C0_conjugateOf this rfl) fun v5 => ?_
          exact sj_re rfl
def G11_leaf_28 : JM Int :=
  ib (G11_refuse 3) fun v1 =>
  jret v1
theorem v_C11_leaf_28  : Sj iI (C11_leaf_28  ) (G11_leaf_28  ) := by
  unfold C11_leaf_28 G11_leaf_28
  refine sj_b (v_C11_refuse (eLit 3)) fun v1 => ?_
  exact sj_re rfl
def G11_leaf (a1 : Int) (a2 : Int) (a3 : Int) : JM Int :=
  ib (G11_bookWithLeaf a1 a2) fun v1 =>
  jcon v1 (ib (G11_refuse 1) fun v3 =>
  jret v3) (fun i2 =>
  ig (R32 a3) <|
  if a3 < 0 then (G11_leaf_28) else (if a3 ≤ 4 then (ib (jE (3, i2)) fun _ =>
  ib (G0_aboutLeaf i2 a2 a3) fun v4 =>
  ib (G11_answer v4) fun v5 =>
  jret v5) else (G11_leaf_28)))
theorem v_C11_leaf  {n_a1 : Int32} {a1 : Int} (e_a1 : n_a1 = iI a1) {n_a2 : Int32} {a2 : Int} (e_a2 : n_a2 = iI a2) {n_a3 : Int32} {a3 : Int} (e_a3 : n_a3 = iI a3) : Sj iI (C11_leaf  n_a1 n_a2 n_a3) (G11_leaf  a1 a2 a3) := by
  subst e_a1
  subst e_a2
  subst e_a3
  unfold C11_leaf G11_leaf
  refine sj_b (v_C11_bookWithLeaf rfl rfl) fun v1 => ?_
  refine sj_con ?_ (fun i2 => ?_)
  · refine sj_b (v_C11_refuse (eLit 1)) fun v3 => ?_
    exact sj_re rfl
  · refine sj_ig fun h1 => ?_
    refine sj_ite (cLt rfl (eLit 0) ⟨h1, (by decide)⟩) ?_ ?_
    · exact v_C11_leaf_28
    · refine sj_ite (cLe rfl (eLit 4) ⟨h1, (by decide)⟩) ?_ ?_
      · refine sj_b sj_E fun _ => ?_
        refine sj_b (v_C0_aboutLeaf i2 rfl rfl) fun v4 => ?_
        refine sj_b (v_C11_answer rfl) fun v5 => ?_
        exact sj_re rfl
      · exact v_C11_leaf_28
def G11_byteOf_12 : JM Int :=
  ib (G11_refuse 1) fun v1 =>
  jret v1
theorem v_C11_byteOf_12  : Sj iI (C11_byteOf_12  ) (G11_byteOf_12  ) := by
  unfold C11_byteOf_12 G11_byteOf_12
  refine sj_b (v_C11_refuse (eLit 1)) fun v1 => ?_
  exact sj_re rfl
def G11_byteOf (a1 : Nat) (a2 : Int) : JM Int :=
  ig (R32 a2) <|
  if a2 < 0 then (G11_byteOf_12) else (ib (jSl a1) fun v1 =>
  ig (R32 v1) <|
  if a2 < v1 then (ib (jSc a1 a2) fun v2 =>
  ib (G11_answer v2) fun v3 =>
  jret v3) else (G11_byteOf_12))
theorem v_C11_byteOf  (a1 : Nat) {n_a2 : Int32} {a2 : Int} (e_a2 : n_a2 = iI a2) : Sj iI (C11_byteOf  a1 n_a2) (G11_byteOf  a1 a2) := by
  subst e_a2
  unfold C11_byteOf G11_byteOf
  refine sj_ig fun h1 => ?_
  refine sj_ite (cLt rfl (eLit 0) ⟨h1, (by decide)⟩) ?_ ?_
  · exact v_C11_byteOf_12
  · refine sj_b sj_Sl fun v1 => ?_
    refine sj_ig fun h2 => ?_
    refine sj_ite (cLt rfl rfl ⟨h1, h2⟩) ?_ ?_
    · refine sj_b (sj_Sc rfl) fun v2 => ?_
      refine sj_b (v_C11_answer rfl) fun v3 => ?_
      exact sj_re rfl
    · exact v_C11_byteOf_12
def G11_letter (a1 : Int) (a2 : Int) : JM Int :=
  ib (G11_bookAt a1) fun v1 =>
  jcon v1 (ib (G11_refuse 1) fun v3 =>
  jret v3) (fun i2 =>
  ib (jW i2) fun v4 =>
  ib (G11_byteOf v4 a2) fun v5 =>
  jret v5)
theorem v_C11_letter  {n_a1 : Int32} {a1 : Int} (e_a1 : n_a1 = iI a1) {n_a2 : Int32} {a2 : Int} (e_a2 : n_a2 = iI a2) : Sj iI (C11_letter  n_a1 n_a2) (G11_letter  a1 a2) := by
  subst e_a1
  subst e_a2
  unfold C11_letter G11_letter
  refine sj_b (v_C11_bookAt rfl) fun v1 => ?_
  refine sj_con ?_ (fun i2 => ?_)
  · refine sj_b (v_C11_refuse (eLit 1)) fun v3 => ?_
    exact sj_re rfl
  · refine sj_b sj_W fun v4 => ?_
    refine sj_b (v_C11_byteOf v4 rfl) fun v5 => ?_
    exact sj_re rfl
def G11_same_22 : JM Int :=
  ib (G11_refuse 1) fun v1 =>
  jret v1
theorem v_C11_same_22  : Sj iI (C11_same_22  ) (G11_same_22  ) := by
  unfold C11_same_22 G11_same_22
  refine sj_b (v_C11_refuse (eLit 1)) fun v1 => ?_
  exact sj_re rfl
def G11_same_49 (y0 : Int) : JM Int :=
  ib (G11_answer y0) fun v1 =>
  jret v1
theorem v_C11_same_49  {n_y0 : Int32} {y0 : Int} (e_y0 : n_y0 = iI y0) : Sj iI (C11_same_49  n_y0) (G11_same_49  y0) := by
  subst e_y0
  unfold C11_same_49 G11_same_49
  refine sj_b (v_C11_answer rfl) fun v1 => ?_
  exact sj_re rfl
def G11_same (a1 : Int) (a2 : Int) : JM Int :=
  ib (G11_bookAt a1) fun v1 =>
  ib (G11_bookAt a2) fun v2 =>
  jcon v1 (G11_same_22) (fun i3 =>
  jcon v2 (G11_same_22) (fun i4 =>
  ib (jW i3) fun v5 =>
  ib (jW i4) fun v6 =>
  ib (jSq v5 v6) fun v7 =>
  ig (R32 v7) <|
  if v7 = 0 then ((G11_same_49 0)) else ((G11_same_49 1))))
theorem v_C11_same  {n_a1 : Int32} {a1 : Int} (e_a1 : n_a1 = iI a1) {n_a2 : Int32} {a2 : Int} (e_a2 : n_a2 = iI a2) : Sj iI (C11_same  n_a1 n_a2) (G11_same  a1 a2) := by
  subst e_a1
  subst e_a2
  unfold C11_same G11_same
  refine sj_b (v_C11_bookAt rfl) fun v1 => ?_
  refine sj_b (v_C11_bookAt rfl) fun v2 => ?_
  refine sj_con ?_ (fun i3 => ?_)
  · exact v_C11_same_22
  · refine sj_con ?_ (fun i4 => ?_)
    · exact v_C11_same_22
    · refine sj_b sj_W fun v5 => ?_
      refine sj_b sj_W fun v6 => ?_
      refine sj_b sj_Sq fun v7 => ?_
      refine sj_ig fun h1 => ?_
      refine sj_ite (cEq rfl (eLit 0) ⟨h1, (by decide)⟩) ?_ ?_
      · exact (v_C11_same_49 (eLit 0))
      · exact (v_C11_same_49 (eLit 1))
def G11_isFormat (a0 : Int) : JM Int :=
  ig (R32 a0) <|
  if a0 = 2 then (jret 1) else (if a0 = 4 then (jret 1) else (if a0 = 8 then (jret 1) else (jret 0)))
theorem v_C11_isFormat  {n_a0 : Int32} {a0 : Int} (e_a0 : n_a0 = iI a0) : Sj iI (C11_isFormat  n_a0) (G11_isFormat  a0) := by
  subst e_a0
  unfold C11_isFormat G11_isFormat
  refine sj_ig fun h1 => ?_
  refine sj_ite (cEq rfl (eLit 2) ⟨h1, (by decide)⟩) ?_ ?_
  · exact sj_re (eLit 1)
  · refine sj_ite (cEq rfl (eLit 4) ⟨h1, (by decide)⟩) ?_ ?_
    · exact sj_re (eLit 1)
    · refine sj_ite (cEq rfl (eLit 8) ⟨h1, (by decide)⟩) ?_ ?_
      · exact sj_re (eLit 1)
      · exact sj_re (eLit 0)
def G0_sheetInGathering (a0 : Int) (a1 : Int) (a2 : Int) : JM Int :=
  ib (jdI a2 2) fun v1 =>
  ig (R32 v1) <|
  if 1 ≤ v1 then (ig (R32 (a1 - a0)) <|
  ig (R32 (a0 - 1)) <|
  ib (jdI (if (a1 - a0) < (a0 - 1) then (a1 - a0) else (a0 - 1)) v1) fun v2 =>
  jret v2) else (jret 0)
theorem v_C0_sheetInGathering  {n_a0 : Int32} {a0 : Int} (e_a0 : n_a0 = iI a0) {n_a1 : Int32} {a1 : Int} (e_a1 : n_a1 = iI a1) {n_a2 : Int32} {a2 : Int} (e_a2 : n_a2 = iI a2) : Sj iI (C0_sheetInGathering  n_a0 n_a1 n_a2) (G0_sheetInGathering  a0 a1 a2) := by
  subst e_a0
  subst e_a1
  subst e_a2
  unfold C0_sheetInGathering G0_sheetInGathering
  refine sj_b (sj_dI rfl (eLit 2)) fun v1 => ?_
  refine sj_ig fun h1 => ?_
  refine sj_ite (cLe (eLit 1) rfl ⟨(by decide), h1⟩) ?_ ?_
  · refine sj_ig fun h2 => ?_
    refine sj_ig fun h3 => ?_
    refine sj_b (sj_dI (eIte (cLt (eSub rfl rfl) (eSub rfl (eLit 1)) ⟨h2, h3⟩) (eSub rfl rfl) (eSub rfl (eLit 1))) rfl) fun v2 => ?_
    exact sj_re rfl
  · exact sj_re (eLit 0)
def G0_sheetsAhead_5_st (k5 : Nat → Int → Int → Int → Int → JM Int) (this : Nat) (x1 : Int) (x2 : Int) (x3 : Int) (x4 : Int) : JM Int :=
  ig (R32 x1) <|
  ig (R32 x4) <|
  if x1 ≤ x4 then (jret x3) else (ib (jE (3, this)) fun _ =>
  ib (jE (3, this)) fun _ =>
  ib (jE (2, (this + 1))) fun _ =>
  ib (G6_signOf (this + 1) x4) fun v1 =>
  ib (jE (2, (this + 1))) fun _ =>
  ib (G6_sizeOf (this + 1) v1) fun v2 =>
  ib (jdI (v2 + 1) 2) fun v3 =>
  ib (G0_sheetInGathering v3 v2 x2) fun v4 =>
  (k5 this x1 x2 (x3 + (v4 + 1)) (x4 + 1)))
theorem v_C0_sheetsAhead_5_st {n_k5 : Nat → Int32 → Int32 → Int32 → Int32 → CM Int32} {k5 : Nat → Int → Int → Int → Int → JM Int} (hk5 : ∀ (z0 : Nat) {n1 : Int32} {z1 : Int} (_ : n1 = iI z1) {n2 : Int32} {z2 : Int} (_ : n2 = iI z2) {n3 : Int32} {z3 : Int} (_ : n3 = iI z3) {n4 : Int32} {z4 : Int} (_ : n4 = iI z4), Sj iI (n_k5 z0 n1 n2 n3 n4) (k5 z0 z1 z2 z3 z4)) (this : Nat) {n_x1 : Int32} {x1 : Int} (e_x1 : n_x1 = iI x1) {n_x2 : Int32} {x2 : Int} (e_x2 : n_x2 = iI x2) {n_x3 : Int32} {x3 : Int} (e_x3 : n_x3 = iI x3) {n_x4 : Int32} {x4 : Int} (e_x4 : n_x4 = iI x4) : Sj iI (C0_sheetsAhead_5_st n_k5 this n_x1 n_x2 n_x3 n_x4) (G0_sheetsAhead_5_st k5 this x1 x2 x3 x4) := by
  subst e_x1
  subst e_x2
  subst e_x3
  subst e_x4
  unfold C0_sheetsAhead_5_st G0_sheetsAhead_5_st
  refine sj_ig fun h1 => ?_
  refine sj_ig fun h2 => ?_
  refine sj_ite (cLe rfl rfl ⟨h1, h2⟩) ?_ ?_
  · exact sj_re rfl
  · refine sj_b sj_E fun _ => ?_
    refine sj_b sj_E fun _ => ?_
    refine sj_b sj_E fun _ => ?_
    refine sj_b (v_C6_signOf (this + 1) rfl) fun v1 => ?_
    refine sj_b sj_E fun _ => ?_
    refine sj_b (v_C6_sizeOf (this + 1) rfl) fun v2 => ?_
    refine sj_b (sj_dI (eAdd rfl (eLit 1)) (eLit 2)) fun v3 => ?_
    refine sj_b (v_C0_sheetInGathering rfl rfl rfl) fun v4 => ?_
    exact (hk5 this rfl rfl (eAdd rfl (eAdd rfl (eLit 1))) (eAdd rfl (eLit 1)))
def G0_sheetsAhead_5 : Nat → Nat → Int → Int → Int → Int → JM Int
  | 0 => fun _ _ _ _ _ => nof
  | n + 1 => fun this x1 x2 x3 x4 => G0_sheetsAhead_5_st  (G0_sheetsAhead_5  n) this x1 x2 x3 x4
theorem v_C0_sheetsAhead_5  : ∀ (n : Nat) (this : Nat) {n_x1 : Int32} {x1 : Int} (e_x1 : n_x1 = iI x1) {n_x2 : Int32} {x2 : Int} (e_x2 : n_x2 = iI x2) {n_x3 : Int32} {x3 : Int} (e_x3 : n_x3 = iI x3) {n_x4 : Int32} {x4 : Int} (e_x4 : n_x4 = iI x4), Sj iI (C0_sheetsAhead_5  n this n_x1 n_x2 n_x3 n_x4) (G0_sheetsAhead_5  n this x1 x2 x3 x4) := by
  intro n
  induction n with
  | zero => intro this n_x1 x1 e_x1 n_x2 x2 e_x2 n_x3 x3 e_x3 n_x4 x4 e_x4; exact sj_nf
  | succ n ih => intro this n_x1 x1 e_x1 n_x2 x2 e_x2 n_x3 x3 e_x3 n_x4 x4 e_x4; exact v_C0_sheetsAhead_5_st  (ih) this e_x1 e_x2 e_x3 e_x4
def G0_sheetsAhead (this : Nat) (a1 : Int) (a2 : Int) : JM Int :=
  (G0_sheetsAhead_5 LFU this a1 a2 0 0)
theorem v_C0_sheetsAhead  (this : Nat) {n_a1 : Int32} {a1 : Int} (e_a1 : n_a1 = iI a1) {n_a2 : Int32} {a2 : Int} (e_a2 : n_a2 = iI a2) : Sj iI (C0_sheetsAhead  this n_a1 n_a2) (G0_sheetsAhead  this a1 a2) := by
  subst e_a1
  subst e_a2
  unfold C0_sheetsAhead G0_sheetsAhead
  exact (v_C0_sheetsAhead_5 LFU this rfl rfl (eLit 0) (eLit 0))
def G11_sheets (a1 : Int) (a2 : Int) : JM Int :=
  ib (G11_bookAt a1) fun v1 =>
  jcon v1 (ib (G11_refuse 1) fun v3 =>
  jret v3) (fun i2 =>
  ib (G11_isFormat a2) fun v4 =>
  ig (R32 v4) <|
  if v4 = 0 then (ib (G11_refuse 3) fun v5 =>
  jret v5) else (ib (jE (3, i2)) fun _ =>
  ib (jG 6 (i2 + 1)) fun v6 =>
  ib (jE (3, i2)) fun _ =>
  ib (G0_sheetsAhead i2 v6 a2) fun v7 =>
  ib (G11_answer v7) fun v8 =>
  jret v8))
theorem v_C11_sheets  {n_a1 : Int32} {a1 : Int} (e_a1 : n_a1 = iI a1) {n_a2 : Int32} {a2 : Int} (e_a2 : n_a2 = iI a2) : Sj iI (C11_sheets  n_a1 n_a2) (G11_sheets  a1 a2) := by
  subst e_a1
  subst e_a2
  unfold C11_sheets G11_sheets
  refine sj_b (v_C11_bookAt rfl) fun v1 => ?_
  refine sj_con ?_ (fun i2 => ?_)
  · refine sj_b (v_C11_refuse (eLit 1)) fun v3 => ?_
    exact sj_re rfl
  · refine sj_b (v_C11_isFormat rfl) fun v4 => ?_
    refine sj_ig fun h1 => ?_
    refine sj_ite (cEq rfl (eLit 0) ⟨h1, (by decide)⟩) ?_ ?_
    · refine sj_b (v_C11_refuse (eLit 3)) fun v5 => ?_
      exact sj_re rfl
    · refine sj_b sj_E fun _ => ?_
      refine sj_b sj_G fun v6 => ?_
      refine sj_b sj_E fun _ => ?_
      refine sj_b (v_C0_sheetsAhead i2 rfl rfl) fun v7 => ?_
      refine sj_b (v_C11_answer rfl) fun v8 => ?_
      exact sj_re rfl
def G0_sheetOf (this : Nat) (a1 : Int) (a2 : Int) : JM Int :=
  ib (jE (3, this)) fun _ =>
  ib (jE (1, (102 + (4 * this)))) fun _ =>
  ib (G8_get (102 + (4 * this)) a1) fun v1 =>
  ig (R32 v1) <|
  if v1 = 0 then (ib (jE (3, this)) fun _ =>
  ib (jE (3, this)) fun _ =>
  ib (G0_signAt this a1) fun v2 =>
  ib (jE (2, (this + 1))) fun _ =>
  ib (G6_sizeOf (this + 1) v2) fun v3 =>
  ib (jE (3, this)) fun _ =>
  ib (jE (1, (100 + (4 * this)))) fun _ =>
  ib (G8_get (100 + (4 * this)) a1) fun v4 =>
  ib (jE (3, this)) fun _ =>
  ib (G0_sheetsAhead this v4 a2) fun v5 =>
  ib (jE (3, this)) fun _ =>
  ib (jE (1, (101 + (4 * this)))) fun _ =>
  ib (G8_get (101 + (4 * this)) a1) fun v6 =>
  ib (G0_sheetInGathering v6 v3 a2) fun v7 =>
  jret (v5 + v7)) else (jret (-1))
theorem v_C0_sheetOf  (this : Nat) {n_a1 : Int32} {a1 : Int} (e_a1 : n_a1 = iI a1) {n_a2 : Int32} {a2 : Int} (e_a2 : n_a2 = iI a2) : Sj iI (C0_sheetOf  this n_a1 n_a2) (G0_sheetOf  this a1 a2) := by
  subst e_a1
  subst e_a2
  unfold C0_sheetOf G0_sheetOf
  refine sj_b sj_E fun _ => ?_
  refine sj_b sj_E fun _ => ?_
  refine sj_b (v_C8_get (102 + (4 * this)) rfl) fun v1 => ?_
  refine sj_ig fun h1 => ?_
  refine sj_ite (cEq rfl (eLit 0) ⟨h1, (by decide)⟩) ?_ ?_
  · refine sj_b sj_E fun _ => ?_
    refine sj_b sj_E fun _ => ?_
    refine sj_b (v_C0_signAt this rfl) fun v2 => ?_
    refine sj_b sj_E fun _ => ?_
    refine sj_b (v_C6_sizeOf (this + 1) rfl) fun v3 => ?_
    refine sj_b sj_E fun _ => ?_
    refine sj_b sj_E fun _ => ?_
    refine sj_b (v_C8_get (100 + (4 * this)) rfl) fun v4 => ?_
    refine sj_b sj_E fun _ => ?_
    refine sj_b (v_C0_sheetsAhead this rfl rfl) fun v5 => ?_
    refine sj_b sj_E fun _ => ?_
    refine sj_b sj_E fun _ => ?_
    refine sj_b (v_C8_get (101 + (4 * this)) rfl) fun v6 => ?_
    refine sj_b (v_C0_sheetInGathering rfl rfl rfl) fun v7 => ?_
    exact sj_re (eAdd rfl rfl)
  · exact sj_re (eLn 1)
def G0_numberOnSheet_73 (k51 : Int → Int → Int → Int → Int → Int → JM Int) (x2 : Int) (x3 : Int) (x4 : Int) (x5 : Int) (x6 : Int) (x7 : Int) : JM Int :=
  (k51 x2 x3 x4 x5 x6 (x7 + 1))
theorem v_C0_numberOnSheet_73 {n_k51 : Int32 → Int32 → Int32 → Int32 → Int32 → Int32 → CM Int32} {k51 : Int → Int → Int → Int → Int → Int → JM Int} (hk51 : ∀ {n0 : Int32} {z0 : Int} (_ : n0 = iI z0) {n1 : Int32} {z1 : Int} (_ : n1 = iI z1) {n2 : Int32} {z2 : Int} (_ : n2 = iI z2) {n3 : Int32} {z3 : Int} (_ : n3 = iI z3) {n4 : Int32} {z4 : Int} (_ : n4 = iI z4) {n5 : Int32} {z5 : Int} (_ : n5 = iI z5), Sj iI (n_k51 n0 n1 n2 n3 n4 n5) (k51 z0 z1 z2 z3 z4 z5)) {n_x2 : Int32} {x2 : Int} (e_x2 : n_x2 = iI x2) {n_x3 : Int32} {x3 : Int} (e_x3 : n_x3 = iI x3) {n_x4 : Int32} {x4 : Int} (e_x4 : n_x4 = iI x4) {n_x5 : Int32} {x5 : Int} (e_x5 : n_x5 = iI x5) {n_x6 : Int32} {x6 : Int} (e_x6 : n_x6 = iI x6) {n_x7 : Int32} {x7 : Int} (e_x7 : n_x7 = iI x7) : Sj iI (C0_numberOnSheet_73 n_k51 n_x2 n_x3 n_x4 n_x5 n_x6 n_x7) (G0_numberOnSheet_73 k51 x2 x3 x4 x5 x6 x7) := by
  subst e_x2
  subst e_x3
  subst e_x4
  subst e_x5
  subst e_x6
  subst e_x7
  unfold C0_numberOnSheet_73 G0_numberOnSheet_73
  exact (hk51 rfl rfl rfl rfl rfl (eAdd rfl (eLit 1)))
def G0_numberOnSheet_51_st (k51 : Int → Int → Int → Int → Int → Int → JM Int) (x2 : Int) (x3 : Int) (x4 : Int) (x5 : Int) (x6 : Int) (x7 : Int) : JM Int :=
  ig (R32 x4) <|
  ig (R32 x7) <|
  if x4 < x7 then (jret x6) else (ib (G0_sheetInGathering x7 x3 x2) fun v1 =>
  ig (R32 v1) <|
  ig (R32 x5) <|
  if v1 = x5 then ((G0_numberOnSheet_73 k51 x2 x3 x4 x5 (x6 + 1) x7)) else ((G0_numberOnSheet_73 k51 x2 x3 x4 x5 x6 x7)))
theorem v_C0_numberOnSheet_51_st {n_k51 : Int32 → Int32 → Int32 → Int32 → Int32 → Int32 → CM Int32} {k51 : Int → Int → Int → Int → Int → Int → JM Int} (hk51 : ∀ {n0 : Int32} {z0 : Int} (_ : n0 = iI z0) {n1 : Int32} {z1 : Int} (_ : n1 = iI z1) {n2 : Int32} {z2 : Int} (_ : n2 = iI z2) {n3 : Int32} {z3 : Int} (_ : n3 = iI z3) {n4 : Int32} {z4 : Int} (_ : n4 = iI z4) {n5 : Int32} {z5 : Int} (_ : n5 = iI z5), Sj iI (n_k51 n0 n1 n2 n3 n4 n5) (k51 z0 z1 z2 z3 z4 z5)) {n_x2 : Int32} {x2 : Int} (e_x2 : n_x2 = iI x2) {n_x3 : Int32} {x3 : Int} (e_x3 : n_x3 = iI x3) {n_x4 : Int32} {x4 : Int} (e_x4 : n_x4 = iI x4) {n_x5 : Int32} {x5 : Int} (e_x5 : n_x5 = iI x5) {n_x6 : Int32} {x6 : Int} (e_x6 : n_x6 = iI x6) {n_x7 : Int32} {x7 : Int} (e_x7 : n_x7 = iI x7) : Sj iI (C0_numberOnSheet_51_st n_k51 n_x2 n_x3 n_x4 n_x5 n_x6 n_x7) (G0_numberOnSheet_51_st k51 x2 x3 x4 x5 x6 x7) := by
  subst e_x2
  subst e_x3
  subst e_x4
  subst e_x5
  subst e_x6
  subst e_x7
  unfold C0_numberOnSheet_51_st G0_numberOnSheet_51_st
  refine sj_ig fun h1 => ?_
  refine sj_ig fun h2 => ?_
  refine sj_ite (cLt rfl rfl ⟨h1, h2⟩) ?_ ?_
  · exact sj_re rfl
  · refine sj_b (v_C0_sheetInGathering rfl rfl rfl) fun v1 => ?_
    refine sj_ig fun h3 => ?_
    refine sj_ig fun h4 => ?_
    refine sj_ite (cEq rfl rfl ⟨h3, h4⟩) ?_ ?_
    · exact (v_C0_numberOnSheet_73 hk51 rfl rfl rfl rfl (eAdd rfl (eLit 1)) rfl)
    · exact (v_C0_numberOnSheet_73 hk51 rfl rfl rfl rfl rfl rfl)
def G0_numberOnSheet_51 : Nat → Int → Int → Int → Int → Int → Int → JM Int
  | 0 => fun _ _ _ _ _ _ => nof
  | n + 1 => fun x2 x3 x4 x5 x6 x7 => G0_numberOnSheet_51_st  (G0_numberOnSheet_51  n) x2 x3 x4 x5 x6 x7
theorem v_C0_numberOnSheet_51  : ∀ (n : Nat) {n_x2 : Int32} {x2 : Int} (e_x2 : n_x2 = iI x2) {n_x3 : Int32} {x3 : Int} (e_x3 : n_x3 = iI x3) {n_x4 : Int32} {x4 : Int} (e_x4 : n_x4 = iI x4) {n_x5 : Int32} {x5 : Int} (e_x5 : n_x5 = iI x5) {n_x6 : Int32} {x6 : Int} (e_x6 : n_x6 = iI x6) {n_x7 : Int32} {x7 : Int} (e_x7 : n_x7 = iI x7), Sj iI (C0_numberOnSheet_51  n n_x2 n_x3 n_x4 n_x5 n_x6 n_x7) (G0_numberOnSheet_51  n x2 x3 x4 x5 x6 x7) := by
  intro n
  induction n with
  | zero => intro n_x2 x2 e_x2 n_x3 x3 e_x3 n_x4 x4 e_x4 n_x5 x5 e_x5 n_x6 x6 e_x6 n_x7 x7 e_x7; exact sj_nf
  | succ n ih => intro n_x2 x2 e_x2 n_x3 x3 e_x3 n_x4 x4 e_x4 n_x5 x5 e_x5 n_x6 x6 e_x6 n_x7 x7 e_x7; exact v_C0_numberOnSheet_51_st  (ih) e_x2 e_x3 e_x4 e_x5 e_x6 e_x7
def G0_numberOnSheet (this : Nat) (a1 : Int) (a2 : Int) : JM Int :=
  ib (jE (3, this)) fun _ =>
  ib (jE (1, (102 + (4 * this)))) fun _ =>
  ib (G8_get (102 + (4 * this)) a1) fun v1 =>
  ig (R32 v1) <|
  if v1 = 0 then (ib (jE (3, this)) fun _ =>
  ib (jE (3, this)) fun _ =>
  ib (G0_signAt this a1) fun v2 =>
  ib (jE (2, (this + 1))) fun _ =>
  ib (G6_sizeOf (this + 1) v2) fun v3 =>
  ib (jE (3, this)) fun _ =>
  ib (jE (1, (101 + (4 * this)))) fun _ =>
  ib (G8_get (101 + (4 * this)) a1) fun v4 =>
  ib (G0_sheetInGathering v4 v3 a2) fun v5 =>
  (G0_numberOnSheet_51 LFU a2 v3 v4 v5 0 1)) else (jret (-1))
theorem v_C0_numberOnSheet  (this : Nat) {n_a1 : Int32} {a1 : Int} (e_a1 : n_a1 = iI a1) {n_a2 : Int32} {a2 : Int} (e_a2 : n_a2 = iI a2) : Sj iI (C0_numberOnSheet  this n_a1 n_a2) (G0_numberOnSheet  this a1 a2) := by
  subst e_a1
  subst e_a2
  unfold C0_numberOnSheet G0_numberOnSheet
  refine sj_b sj_E fun _ => ?_
  refine sj_b sj_E fun _ => ?_
  refine sj_b (v_C8_get (102 + (4 * this)) rfl) fun v1 => ?_
  refine sj_ig fun h1 => ?_
  refine sj_ite (cEq rfl (eLit 0) ⟨h1, (by decide)⟩) ?_ ?_
  · refine sj_b sj_E fun _ => ?_
    refine sj_b sj_E fun _ => ?_
    refine sj_b (v_C0_signAt this rfl) fun v2 => ?_
    refine sj_b sj_E fun _ => ?_
    refine sj_b (v_C6_sizeOf (this + 1) rfl) fun v3 => ?_
    refine sj_b sj_E fun _ => ?_
    refine sj_b sj_E fun _ => ?_
    refine sj_b (v_C8_get (101 + (4 * this)) rfl) fun v4 => ?_
    refine sj_b (v_C0_sheetInGathering rfl rfl rfl) fun v5 => ?_
    exact (v_C0_numberOnSheet_51 LFU rfl rfl rfl rfl (eLit 0) (eLit 1))
  · exact sj_re (eLn 1)
def G11_sheet_37 : JM Int :=
  ib (G11_refuse 3) fun v1 =>
  jret v1
theorem v_C11_sheet_37  : Sj iI (C11_sheet_37  ) (G11_sheet_37  ) := by
  unfold C11_sheet_37 G11_sheet_37
  refine sj_b (v_C11_refuse (eLit 3)) fun v1 => ?_
  exact sj_re rfl
def G11_sheet_66 (y0 : Int) : JM Int :=
  ib (G11_answer y0) fun v1 =>
  jret v1
theorem v_C11_sheet_66  {n_y0 : Int32} {y0 : Int} (e_y0 : n_y0 = iI y0) : Sj iI (C11_sheet_66  n_y0) (G11_sheet_66  y0) := by
  subst e_y0
  unfold C11_sheet_66 G11_sheet_66
  refine sj_b (v_C11_answer rfl) fun v1 => ?_
  exact sj_re rfl
def G11_sheet (a1 : Int) (a2 : Int) (a3 : Int) (a4 : Int) : JM Int :=
  ib (G11_bookWithLeaf a1 a2) fun v1 =>
  jcon v1 (ib (G11_refuse 1) fun v3 =>
  jret v3) (fun i2 =>
  ib (G11_isFormat a3) fun v4 =>
  ig (R32 v4) <|
  if v4 = 0 then (G11_sheet_37) else (ig (R32 a4) <|
  if a4 < 0 then (G11_sheet_37) else (if a4 ≤ 1 then (if a4 = 0 then (ib (jE (3, i2)) fun _ =>
  ib (G0_sheetOf i2 a2 a3) fun v5 =>
  (G11_sheet_66 v5)) else (ib (jE (3, i2)) fun _ =>
  ib (G0_numberOnSheet i2 a2 a3) fun v6 =>
  (G11_sheet_66 v6))) else (G11_sheet_37))))
theorem v_C11_sheet  {n_a1 : Int32} {a1 : Int} (e_a1 : n_a1 = iI a1) {n_a2 : Int32} {a2 : Int} (e_a2 : n_a2 = iI a2) {n_a3 : Int32} {a3 : Int} (e_a3 : n_a3 = iI a3) {n_a4 : Int32} {a4 : Int} (e_a4 : n_a4 = iI a4) : Sj iI (C11_sheet  n_a1 n_a2 n_a3 n_a4) (G11_sheet  a1 a2 a3 a4) := by
  subst e_a1
  subst e_a2
  subst e_a3
  subst e_a4
  unfold C11_sheet G11_sheet
  refine sj_b (v_C11_bookWithLeaf rfl rfl) fun v1 => ?_
  refine sj_con ?_ (fun i2 => ?_)
  · refine sj_b (v_C11_refuse (eLit 1)) fun v3 => ?_
    exact sj_re rfl
  · refine sj_b (v_C11_isFormat rfl) fun v4 => ?_
    refine sj_ig fun h1 => ?_
    refine sj_ite (cEq rfl (eLit 0) ⟨h1, (by decide)⟩) ?_ ?_
    · exact v_C11_sheet_37
    · refine sj_ig fun h2 => ?_
      refine sj_ite (cLt rfl (eLit 0) ⟨h2, (by decide)⟩) ?_ ?_
      · exact v_C11_sheet_37
      · refine sj_ite (cLe rfl (eLit 1) ⟨h2, (by decide)⟩) ?_ ?_
        · refine sj_ite (cEq rfl (eLit 0) ⟨h2, (by decide)⟩) ?_ ?_
          · refine sj_b sj_E fun _ => ?_
            refine sj_b (v_C0_sheetOf i2 rfl rfl) fun v5 => ?_
            exact (v_C11_sheet_66 rfl)
          · refine sj_b sj_E fun _ => ?_
            refine sj_b (v_C0_numberOnSheet i2 rfl rfl) fun v6 => ?_
            exact (v_C11_sheet_66 rfl)
        · exact v_C11_sheet_37
def G0_formeOf_40 (x5 : Int) (y0 : Int) : JM Int :=
  ig (R32 x5) <|
  ig (R32 y0) <|
  if x5 = y0 then (jret 0) else (jret 1)
theorem v_C0_formeOf_40  {n_x5 : Int32} {x5 : Int} (e_x5 : n_x5 = iI x5) {n_y0 : Int32} {y0 : Int} (e_y0 : n_y0 = iI y0) : Sj iI (C0_formeOf_40  n_x5 n_y0) (G0_formeOf_40  x5 y0) := by
  subst e_x5
  subst e_y0
  unfold C0_formeOf_40 G0_formeOf_40
  refine sj_ig fun h1 => ?_
  refine sj_ig fun h2 => ?_
  refine sj_ite (cEq rfl rfl ⟨h1, h2⟩) ?_ ?_
  · exact sj_re (eLit 0)
  · exact sj_re (eLit 1)
def G0_formeOf_29 (x2 : Int) (y0 : Int) : JM Int :=
  ig (R32 x2) <|
  if x2 = 0 then ((G0_formeOf_40 y0 1)) else ((G0_formeOf_40 y0 0))
theorem v_C0_formeOf_29  {n_x2 : Int32} {x2 : Int} (e_x2 : n_x2 = iI x2) {n_y0 : Int32} {y0 : Int} (e_y0 : n_y0 = iI y0) : Sj iI (C0_formeOf_29  n_x2 n_y0) (G0_formeOf_29  x2 y0) := by
  subst e_x2
  subst e_y0
  unfold C0_formeOf_29 G0_formeOf_29
  refine sj_ig fun h1 => ?_
  refine sj_ite (cEq rfl (eLit 0) ⟨h1, (by decide)⟩) ?_ ?_
  · exact (v_C0_formeOf_40 rfl (eLit 1))
  · exact (v_C0_formeOf_40 rfl (eLit 0))
def G0_formeOf (this : Nat) (a1 : Int) (a2 : Int) (a3 : Int) : JM Int :=
  ib (jE (3, this)) fun _ =>
  ib (G0_numberOnSheet this a1 a3) fun v1 =>
  ig (R32 v1) <|
  if v1 = (-1) then (jret (-1)) else (ib (jrI v1 2) fun v2 =>
  ig (R32 v2) <|
  if v2 = 1 then ((G0_formeOf_29 a2 1)) else ((G0_formeOf_29 a2 0)))
theorem v_C0_formeOf  (this : Nat) {n_a1 : Int32} {a1 : Int} (e_a1 : n_a1 = iI a1) {n_a2 : Int32} {a2 : Int} (e_a2 : n_a2 = iI a2) {n_a3 : Int32} {a3 : Int} (e_a3 : n_a3 = iI a3) : Sj iI (C0_formeOf  this n_a1 n_a2 n_a3) (G0_formeOf  this a1 a2 a3) := by
  subst e_a1
  subst e_a2
  subst e_a3
  unfold C0_formeOf G0_formeOf
  refine sj_b sj_E fun _ => ?_
  refine sj_b (v_C0_numberOnSheet this rfl rfl) fun v1 => ?_
  refine sj_ig fun h1 => ?_
  refine sj_ite (cEq rfl (eLn 1) ⟨h1, (by decide)⟩) ?_ ?_
  · exact sj_re (eLn 1)
  · refine sj_b (sj_rI rfl (eLit 2)) fun v2 => ?_
    refine sj_ig fun h2 => ?_
    refine sj_ite (cEq rfl (eLit 1) ⟨h2, (by decide)⟩) ?_ ?_
    · exact (v_C0_formeOf_29 rfl (eLit 1))
    · exact (v_C0_formeOf_29 rfl (eLit 0))
def G11_forme_36 : JM Int :=
  ib (G11_refuse 3) fun v1 =>
  jret v1
theorem v_C11_forme_36  : Sj iI (C11_forme_36  ) (G11_forme_36  ) := by
  unfold C11_forme_36 G11_forme_36
  refine sj_b (v_C11_refuse (eLit 3)) fun v1 => ?_
  exact sj_re rfl
def G11_forme (a1 : Int) (a2 : Int) (a3 : Int) (a4 : Int) : JM Int :=
  ib (G11_bookWithLeaf a1 a2) fun v1 =>
  jcon v1 (ib (G11_refuse 1) fun v3 =>
  jret v3) (fun i2 =>
  ib (G11_isFormat a4) fun v4 =>
  ig (R32 v4) <|
  if v4 = 0 then (G11_forme_36) else (ig (R32 a3) <|
  if a3 < 0 then (G11_forme_36) else (if a3 ≤ 1 then (ib (jE (3, i2)) fun _ =>
  ib (G0_formeOf i2 a2 a3 a4) fun v5 =>
  ib (G11_answer v5) fun v6 =>
  jret v6) else (G11_forme_36))))
theorem v_C11_forme  {n_a1 : Int32} {a1 : Int} (e_a1 : n_a1 = iI a1) {n_a2 : Int32} {a2 : Int} (e_a2 : n_a2 = iI a2) {n_a3 : Int32} {a3 : Int} (e_a3 : n_a3 = iI a3) {n_a4 : Int32} {a4 : Int} (e_a4 : n_a4 = iI a4) : Sj iI (C11_forme  n_a1 n_a2 n_a3 n_a4) (G11_forme  a1 a2 a3 a4) := by
  subst e_a1
  subst e_a2
  subst e_a3
  subst e_a4
  unfold C11_forme G11_forme
  refine sj_b (v_C11_bookWithLeaf rfl rfl) fun v1 => ?_
  refine sj_con ?_ (fun i2 => ?_)
  · refine sj_b (v_C11_refuse (eLit 1)) fun v3 => ?_
    exact sj_re rfl
  · refine sj_b (v_C11_isFormat rfl) fun v4 => ?_
    refine sj_ig fun h1 => ?_
    refine sj_ite (cEq rfl (eLit 0) ⟨h1, (by decide)⟩) ?_ ?_
    · exact v_C11_forme_36
    · refine sj_ig fun h2 => ?_
      refine sj_ite (cLt rfl (eLit 0) ⟨h2, (by decide)⟩) ?_ ?_
      · exact v_C11_forme_36
      · refine sj_ite (cLe rfl (eLit 1) ⟨h2, (by decide)⟩) ?_ ?_
        · refine sj_b sj_E fun _ => ?_
          refine sj_b (v_C0_formeOf i2 rfl rfl rfl) fun v5 => ?_
          refine sj_b (v_C11_answer rfl) fun v6 => ?_
          exact sj_re rfl
        · exact v_C11_forme_36
def G11_copyAt (a1 : Int) : JM (Option Nat) :=
  ig (R32 a1) <|
  if a1 < 0 then (jret none) else (ib (jG 9 0) fun v1 =>
  ig (R32 v1) <|
  if v1 ≤ a1 then (jret none) else (if a1 < 16 then (ib (jCk a1) fun v2 =>
  jret v2) else (jret none)))
theorem v_C11_copyAt  {n_a1 : Int32} {a1 : Int} (e_a1 : n_a1 = iI a1) : Sj (fun x : Option Nat => x) (C11_copyAt  n_a1) (G11_copyAt  a1) := by
  subst e_a1
  unfold C11_copyAt G11_copyAt
  refine sj_ig fun h1 => ?_
  refine sj_ite (cLt rfl (eLit 0) ⟨h1, (by decide)⟩) ?_ ?_
  · exact sj_rn
  · refine sj_b sj_G fun v1 => ?_
    refine sj_ig fun h2 => ?_
    refine sj_ite (cLe rfl rfl ⟨h2, h1⟩) ?_ ?_
    · exact sj_rn
    · refine sj_ite (cLt rfl (eLit 16) ⟨h1, (by decide)⟩) ?_ ?_
      · refine sj_b (sj_Ck rfl) fun v2 => ?_
        exact sj_rn
      · exact sj_rn
def G2_rowOf (this : Nat) (a1 : Int) : JM (Option Nat) :=
  ig (R32 a1) <|
  if a1 = 1 then (ib (jE (4, this)) fun _ =>
  jret (some (200 + (5 * this)))) else (if a1 = 2 then (ib (jE (4, this)) fun _ =>
  jret (some (201 + (5 * this)))) else (if a1 = 3 then (ib (jE (4, this)) fun _ =>
  jret (some (202 + (5 * this)))) else (if a1 = 4 then (ib (jE (4, this)) fun _ =>
  jret (some (203 + (5 * this)))) else (if a1 = 5 then (ib (jE (4, this)) fun _ =>
  jret (some (204 + (5 * this)))) else (jret none)))))
theorem v_C2_rowOf  (this : Nat) {n_a1 : Int32} {a1 : Int} (e_a1 : n_a1 = iI a1) : Sj (fun x : Option Nat => x) (C2_rowOf  this n_a1) (G2_rowOf  this a1) := by
  subst e_a1
  unfold C2_rowOf G2_rowOf
  refine sj_ig fun h1 => ?_
  refine sj_ite (cEq rfl (eLit 1) ⟨h1, (by decide)⟩) ?_ ?_
  · refine sj_b sj_E fun _ => ?_
    exact sj_rn
  · refine sj_ite (cEq rfl (eLit 2) ⟨h1, (by decide)⟩) ?_ ?_
    · refine sj_b sj_E fun _ => ?_
      exact sj_rn
    · refine sj_ite (cEq rfl (eLit 3) ⟨h1, (by decide)⟩) ?_ ?_
      · refine sj_b sj_E fun _ => ?_
        exact sj_rn
      · refine sj_ite (cEq rfl (eLit 4) ⟨h1, (by decide)⟩) ?_ ?_
        · refine sj_b sj_E fun _ => ?_
          exact sj_rn
        · refine sj_ite (cEq rfl (eLit 5) ⟨h1, (by decide)⟩) ?_ ?_
          · refine sj_b sj_E fun _ => ?_
            exact sj_rn
          · exact sj_rn
def G11_state (a1 : Int) (a2 : Int) : JM Int :=
  ib (G11_copyAt a1) fun v1 =>
  jcon v1 (ib (G11_refuse 1) fun v3 =>
  jret v3) (fun i2 =>
  ig (R32 a2) <|
  if a2 = 0 then (ib (jG 12 i2) fun v4 =>
  ib (G11_answer v4) fun v5 =>
  jret v5) else (ib (jE (4, i2)) fun _ =>
  ib (G2_rowOf i2 a2) fun v6 =>
  jcon v6 (ib (G11_refuse 3) fun v8 =>
  jret v8) (fun i7 =>
  ib (jG 1 i7) fun v9 =>
  ib (G11_answer v9) fun v10 =>
  jret v10)))
theorem v_C11_state  {n_a1 : Int32} {a1 : Int} (e_a1 : n_a1 = iI a1) {n_a2 : Int32} {a2 : Int} (e_a2 : n_a2 = iI a2) : Sj iI (C11_state  n_a1 n_a2) (G11_state  a1 a2) := by
  subst e_a1
  subst e_a2
  unfold C11_state G11_state
  refine sj_b (v_C11_copyAt rfl) fun v1 => ?_
  refine sj_con ?_ (fun i2 => ?_)
  · refine sj_b (v_C11_refuse (eLit 1)) fun v3 => ?_
    exact sj_re rfl
  · refine sj_ig fun h1 => ?_
    refine sj_ite (cEq rfl (eLit 0) ⟨h1, (by decide)⟩) ?_ ?_
    · refine sj_b sj_G fun v4 => ?_
      refine sj_b (v_C11_answer rfl) fun v5 => ?_
      exact sj_re rfl
    · refine sj_b sj_E fun _ => ?_
      refine sj_b (v_C2_rowOf i2 rfl) fun v6 => ?_
      refine sj_con ?_ (fun i7 => ?_)
      · refine sj_b (v_C11_refuse (eLit 3)) fun v8 => ?_
        exact sj_re rfl
      · refine sj_b sj_G fun v9 => ?_
        refine sj_b (v_C11_answer rfl) fun v10 => ?_
        exact sj_re rfl
def G11_numberOf_12 : JM Int :=
  ib (G11_refuse 1) fun v1 =>
  jret v1
theorem v_C11_numberOf_12  : Sj iI (C11_numberOf_12  ) (G11_numberOf_12  ) := by
  unfold C11_numberOf_12 G11_numberOf_12
  refine sj_b (v_C11_refuse (eLit 1)) fun v1 => ?_
  exact sj_re rfl
def G11_numberOf (a1 : Nat) (a2 : Int) : JM Int :=
  ig (R32 a2) <|
  if a2 < 0 then (G11_numberOf_12) else (ib (jG 1 a1) fun v1 =>
  ig (R32 v1) <|
  if a2 < v1 then (ib (jE (1, a1)) fun _ =>
  ib (G8_get a1 a2) fun v2 =>
  ib (G11_answer v2) fun v3 =>
  jret v3) else (G11_numberOf_12))
theorem v_C11_numberOf  (a1 : Nat) {n_a2 : Int32} {a2 : Int} (e_a2 : n_a2 = iI a2) : Sj iI (C11_numberOf  a1 n_a2) (G11_numberOf  a1 a2) := by
  subst e_a2
  unfold C11_numberOf G11_numberOf
  refine sj_ig fun h1 => ?_
  refine sj_ite (cLt rfl (eLit 0) ⟨h1, (by decide)⟩) ?_ ?_
  · exact v_C11_numberOf_12
  · refine sj_b sj_G fun v1 => ?_
    refine sj_ig fun h2 => ?_
    refine sj_ite (cLt rfl rfl ⟨h1, h2⟩) ?_ ?_
    · refine sj_b sj_E fun _ => ?_
      refine sj_b (v_C8_get a1 rfl) fun v2 => ?_
      refine sj_b (v_C11_answer rfl) fun v3 => ?_
      exact sj_re rfl
    · exact v_C11_numberOf_12
def G11_entry (a1 : Int) (a2 : Int) : JM Int :=
  ib (G11_copyAt a1) fun v1 =>
  jcon v1 (ib (G11_refuse 1) fun v3 =>
  jret v3) (fun i2 =>
  ib (jE (4, i2)) fun _ =>
  ib (G11_numberOf (200 + (5 * i2)) a2) fun v4 =>
  jret v4)
theorem v_C11_entry  {n_a1 : Int32} {a1 : Int} (e_a1 : n_a1 = iI a1) {n_a2 : Int32} {a2 : Int} (e_a2 : n_a2 = iI a2) : Sj iI (C11_entry  n_a1 n_a2) (G11_entry  a1 a2) := by
  subst e_a1
  subst e_a2
  unfold C11_entry G11_entry
  refine sj_b (v_C11_copyAt rfl) fun v1 => ?_
  refine sj_con ?_ (fun i2 => ?_)
  · refine sj_b (v_C11_refuse (eLit 1)) fun v3 => ?_
    exact sj_re rfl
  · refine sj_b sj_E fun _ => ?_
    refine sj_b (v_C11_numberOf (200 + (5 * i2)) rfl) fun v4 => ?_
    exact sj_re rfl
def G11_told_33 (x3 : Int) (y0 : Option Nat) : JM Int :=
  jcon y0 (ib (G11_refuse 3) fun v2 =>
  jret v2) (fun i1 =>
  ib (G11_numberOf i1 x3) fun v3 =>
  jret v3)
theorem v_C11_told_33  {n_x3 : Int32} {x3 : Int} (e_x3 : n_x3 = iI x3) (y0 : Option Nat) : Sj iI (C11_told_33  n_x3 y0) (G11_told_33  x3 y0) := by
  subst e_x3
  unfold C11_told_33 G11_told_33
  refine sj_con ?_ (fun i1 => ?_)
  · refine sj_b (v_C11_refuse (eLit 3)) fun v2 => ?_
    exact sj_re rfl
  · refine sj_b (v_C11_numberOf i1 rfl) fun v3 => ?_
    exact sj_re rfl
def G11_told (a1 : Int) (a2 : Int) (a3 : Int) : JM Int :=
  ib (G11_copyAt a1) fun v1 =>
  jcon v1 (ib (G11_refuse 1) fun v3 =>
  jret v3) (fun i2 =>
  ig (R32 a2) <|
  if 2 ≤ a2 then (ib (jE (4, i2)) fun _ =>
  ib (G2_rowOf i2 a2) fun v4 =>
  (G11_told_33 a3 v4)) else ((G11_told_33 a3 none)))
theorem v_C11_told  {n_a1 : Int32} {a1 : Int} (e_a1 : n_a1 = iI a1) {n_a2 : Int32} {a2 : Int} (e_a2 : n_a2 = iI a2) {n_a3 : Int32} {a3 : Int} (e_a3 : n_a3 = iI a3) : Sj iI (C11_told  n_a1 n_a2 n_a3) (G11_told  a1 a2 a3) := by
  subst e_a1
  subst e_a2
  subst e_a3
  unfold C11_told G11_told
  refine sj_b (v_C11_copyAt rfl) fun v1 => ?_
  refine sj_con ?_ (fun i2 => ?_)
  · refine sj_b (v_C11_refuse (eLit 1)) fun v3 => ?_
    exact sj_re rfl
  · refine sj_ig fun h1 => ?_
    refine sj_ite (cLe (eLit 2) rfl ⟨(by decide), h1⟩) ?_ ?_
    · refine sj_b sj_E fun _ => ?_
      refine sj_b (v_C2_rowOf i2 rfl) fun v4 => ?_
      exact (v_C11_told_33 rfl v4)
    · exact (v_C11_told_33 rfl none)
def G11_note (a1 : Int) (a2 : Int) : JM Int :=
  ib (G11_copyAt a1) fun v1 =>
  jcon v1 (ib (G11_refuse 1) fun v3 =>
  jret v3) (fun i2 =>
  ib (jTx i2) fun v4 =>
  ib (G11_byteOf v4 a2) fun v5 =>
  jret v5)
theorem v_C11_note  {n_a1 : Int32} {a1 : Int} (e_a1 : n_a1 = iI a1) {n_a2 : Int32} {a2 : Int} (e_a2 : n_a2 = iI a2) : Sj iI (C11_note  n_a1 n_a2) (G11_note  a1 a2) := by
  subst e_a1
  subst e_a2
  unfold C11_note G11_note
  refine sj_b (v_C11_copyAt rfl) fun v1 => ?_
  refine sj_con ?_ (fun i2 => ?_)
  · refine sj_b (v_C11_refuse (eLit 1)) fun v3 => ?_
    exact sj_re rfl
  · refine sj_b sj_T fun v4 => ?_
    refine sj_b (v_C11_byteOf v4 rfl) fun v5 => ?_
    exact sj_re rfl
def G1_markBoth_42_st (k42 : Nat → Int → JM Unit) (x2 : Nat) (x3 : Int) : JM Unit :=
  ib (jE (4, x2)) fun _ =>
  ib (jG 1 (200 + (5 * x2))) fun v1 =>
  ig (R32 v1) <|
  ig (R32 x3) <|
  if v1 ≤ x3 then (jret ()) else (ib (jE (4, x2)) fun _ =>
  ib (jE (1, (200 + (5 * x2)))) fun _ =>
  ib (G8_get (200 + (5 * x2)) x3) fun v2 =>
  ib (G1_markAt v2) fun v3 =>
  ib (G1_setMark v2 (iOr v3 2)) fun _ =>
  (k42 x2 (x3 + 1)))
theorem v_C1_markBoth_42_st {n_k42 : Nat → Int32 → CM Unit} {k42 : Nat → Int → JM Unit} (hk42 : ∀ (z0 : Nat) {n1 : Int32} {z1 : Int} (_ : n1 = iI z1), Sj (fun x : Unit => x) (n_k42 z0 n1) (k42 z0 z1)) (x2 : Nat) {n_x3 : Int32} {x3 : Int} (e_x3 : n_x3 = iI x3) : Sj (fun x : Unit => x) (C1_markBoth_42_st n_k42 x2 n_x3) (G1_markBoth_42_st k42 x2 x3) := by
  subst e_x3
  unfold C1_markBoth_42_st G1_markBoth_42_st
  refine sj_b sj_E fun _ => ?_
  refine sj_b sj_G fun v1 => ?_
  refine sj_ig fun h1 => ?_
  refine sj_ig fun h2 => ?_
  refine sj_ite (cLe rfl rfl ⟨h1, h2⟩) ?_ ?_
  · exact sj_rn
  · refine sj_b sj_E fun _ => ?_
    refine sj_b sj_E fun _ => ?_
    refine sj_b (v_C8_get (200 + (5 * x2)) rfl) fun v2 => ?_
    refine sj_b (v_C1_markAt rfl) fun v3 => ?_
    refine sj_b (v_C1_setMark rfl (eOr rfl (eLit 2))) fun _ => ?_
    exact (hk42 x2 (eAdd rfl (eLit 1)))
def G1_markBoth_42 : Nat → Nat → Int → JM Unit
  | 0 => fun _ _ => nof
  | n + 1 => fun x2 x3 => G1_markBoth_42_st  (G1_markBoth_42  n) x2 x3
theorem v_C1_markBoth_42  : ∀ (n : Nat) (x2 : Nat) {n_x3 : Int32} {x3 : Int} (e_x3 : n_x3 = iI x3), Sj (fun x : Unit => x) (C1_markBoth_42  n x2 n_x3) (G1_markBoth_42  n x2 x3) := by
  intro n
  induction n with
  | zero => intro x2 n_x3 x3 e_x3; exact sj_nf
  | succ n ih => intro x2 n_x3 x3 e_x3; exact v_C1_markBoth_42_st  (ih) x2 e_x3
def G1_markBoth_40 (x2 : Nat) : JM Unit :=
  (G1_markBoth_42 LFU x2 0)
theorem v_C1_markBoth_40  (x2 : Nat) : Sj (fun x : Unit => x) (C1_markBoth_40  x2) (G1_markBoth_40  x2) := by
  unfold C1_markBoth_40 G1_markBoth_40
  exact (v_C1_markBoth_42 LFU x2 (eLit 0))
def G1_markBoth_10_st (k10 : Nat → Nat → Int → JM Unit) (x1 : Nat) (x2 : Nat) (x3 : Int) : JM Unit :=
  ib (jE (4, x1)) fun _ =>
  ib (jG 1 (200 + (5 * x1))) fun v1 =>
  ig (R32 v1) <|
  ig (R32 x3) <|
  if v1 ≤ x3 then ((G1_markBoth_40 x2)) else (ib (jE (4, x1)) fun _ =>
  ib (jE (1, (200 + (5 * x1)))) fun _ =>
  ib (G8_get (200 + (5 * x1)) x3) fun v2 =>
  ib (G1_setMark v2 1) fun _ =>
  (k10 x1 x2 (x3 + 1)))
theorem v_C1_markBoth_10_st {n_k10 : Nat → Nat → Int32 → CM Unit} {k10 : Nat → Nat → Int → JM Unit} (hk10 : ∀ (z0 : Nat) (z1 : Nat) {n2 : Int32} {z2 : Int} (_ : n2 = iI z2), Sj (fun x : Unit => x) (n_k10 z0 z1 n2) (k10 z0 z1 z2)) (x1 : Nat) (x2 : Nat) {n_x3 : Int32} {x3 : Int} (e_x3 : n_x3 = iI x3) : Sj (fun x : Unit => x) (C1_markBoth_10_st n_k10 x1 x2 n_x3) (G1_markBoth_10_st k10 x1 x2 x3) := by
  subst e_x3
  unfold C1_markBoth_10_st G1_markBoth_10_st
  refine sj_b sj_E fun _ => ?_
  refine sj_b sj_G fun v1 => ?_
  refine sj_ig fun h1 => ?_
  refine sj_ig fun h2 => ?_
  refine sj_ite (cLe rfl rfl ⟨h1, h2⟩) ?_ ?_
  · exact (v_C1_markBoth_40 x2)
  · refine sj_b sj_E fun _ => ?_
    refine sj_b sj_E fun _ => ?_
    refine sj_b (v_C8_get (200 + (5 * x1)) rfl) fun v2 => ?_
    refine sj_b (v_C1_setMark rfl (eLit 1)) fun _ => ?_
    exact (hk10 x1 x2 (eAdd rfl (eLit 1)))
def G1_markBoth_10 : Nat → Nat → Nat → Int → JM Unit
  | 0 => fun _ _ _ => nof
  | n + 1 => fun x1 x2 x3 => G1_markBoth_10_st  (G1_markBoth_10  n) x1 x2 x3
theorem v_C1_markBoth_10  : ∀ (n : Nat) (x1 : Nat) (x2 : Nat) {n_x3 : Int32} {x3 : Int} (e_x3 : n_x3 = iI x3), Sj (fun x : Unit => x) (C1_markBoth_10  n x1 x2 n_x3) (G1_markBoth_10  n x1 x2 x3) := by
  intro n
  induction n with
  | zero => intro x1 x2 n_x3 x3 e_x3; exact sj_nf
  | succ n ih => intro x1 x2 n_x3 x3 e_x3; exact v_C1_markBoth_10_st  (ih) x1 x2 e_x3
def G1_markBoth (a1 : Nat) (a2 : Nat) : JM Unit :=
  ib (jFi 8 0 false 0) fun _ =>
  (G1_markBoth_10 LFU a1 a2 0)
theorem v_C1_markBoth  (a1 : Nat) (a2 : Nat) : Sj (fun x : Unit => x) (C1_markBoth  a1 a2) (G1_markBoth  a1 a2) := by
  unfold C1_markBoth G1_markBoth
  refine sj_b (sj_Fi (eLit 0)) fun _ => ?_
  exact (v_C1_markBoth_10 LFU a1 a2 (eLit 0))
def G1_countApart_46 (k11 : Nat → Int → Int → JM Int) (x1 : Nat) (x3 : Int) (x4 : Int) : JM Int :=
  (k11 x1 x3 (x4 + 1))
theorem v_C1_countApart_46 {n_k11 : Nat → Int32 → Int32 → CM Int32} {k11 : Nat → Int → Int → JM Int} (hk11 : ∀ (z0 : Nat) {n1 : Int32} {z1 : Int} (_ : n1 = iI z1) {n2 : Int32} {z2 : Int} (_ : n2 = iI z2), Sj iI (n_k11 z0 n1 n2) (k11 z0 z1 z2)) (x1 : Nat) {n_x3 : Int32} {x3 : Int} (e_x3 : n_x3 = iI x3) {n_x4 : Int32} {x4 : Int} (e_x4 : n_x4 = iI x4) : Sj iI (C1_countApart_46 n_k11 x1 n_x3 n_x4) (G1_countApart_46 k11 x1 x3 x4) := by
  subst e_x3
  subst e_x4
  unfold C1_countApart_46 G1_countApart_46
  exact (hk11 x1 rfl (eAdd rfl (eLit 1)))
def G1_countApart_43 (k11 : Nat → Int → Int → JM Int) (x1 : Nat) (x3 : Int) (x4 : Int) : JM Int :=
  (G1_countApart_46 k11 x1 (x3 + 1) x4)
theorem v_C1_countApart_43 {n_k11 : Nat → Int32 → Int32 → CM Int32} {k11 : Nat → Int → Int → JM Int} (hk11 : ∀ (z0 : Nat) {n1 : Int32} {z1 : Int} (_ : n1 = iI z1) {n2 : Int32} {z2 : Int} (_ : n2 = iI z2), Sj iI (n_k11 z0 n1 n2) (k11 z0 z1 z2)) (x1 : Nat) {n_x3 : Int32} {x3 : Int} (e_x3 : n_x3 = iI x3) {n_x4 : Int32} {x4 : Int} (e_x4 : n_x4 = iI x4) : Sj iI (C1_countApart_43 n_k11 x1 n_x3 n_x4) (G1_countApart_43 k11 x1 x3 x4) := by
  subst e_x3
  subst e_x4
  unfold C1_countApart_43 G1_countApart_43
  exact (v_C1_countApart_46 hk11 x1 (eAdd rfl (eLit 1)) rfl)
def G1_countApart_11_st (k11 : Nat → Int → Int → JM Int) (x1 : Nat) (x3 : Int) (x4 : Int) : JM Int :=
  ib (jR x1) fun v1 =>
  ib (jE (3, v1)) fun _ =>
  ib (G0_leafCount v1) fun v2 =>
  ig (R32 v2) <|
  ig (R32 x4) <|
  if v2 ≤ x4 then (jret x3) else (ib (G1_markAt x4) fun v3 =>
  ig (R32 v3) <|
  if v3 = 1 then ((G1_countApart_43 k11 x1 x3 x4)) else (ib (G1_markAt x4) fun v4 =>
  ig (R32 v4) <|
  if v4 = 2 then ((G1_countApart_43 k11 x1 x3 x4)) else ((G1_countApart_46 k11 x1 x3 x4))))
theorem v_C1_countApart_11_st {n_k11 : Nat → Int32 → Int32 → CM Int32} {k11 : Nat → Int → Int → JM Int} (hk11 : ∀ (z0 : Nat) {n1 : Int32} {z1 : Int} (_ : n1 = iI z1) {n2 : Int32} {z2 : Int} (_ : n2 = iI z2), Sj iI (n_k11 z0 n1 n2) (k11 z0 z1 z2)) (x1 : Nat) {n_x3 : Int32} {x3 : Int} (e_x3 : n_x3 = iI x3) {n_x4 : Int32} {x4 : Int} (e_x4 : n_x4 = iI x4) : Sj iI (C1_countApart_11_st n_k11 x1 n_x3 n_x4) (G1_countApart_11_st k11 x1 x3 x4) := by
  subst e_x3
  subst e_x4
  unfold C1_countApart_11_st G1_countApart_11_st
  refine sj_b sj_R fun v1 => ?_
  refine sj_b sj_E fun _ => ?_
  refine sj_b (v_C0_leafCount v1) fun v2 => ?_
  refine sj_ig fun h1 => ?_
  refine sj_ig fun h2 => ?_
  refine sj_ite (cLe rfl rfl ⟨h1, h2⟩) ?_ ?_
  · exact sj_re rfl
  · refine sj_b (v_C1_markAt rfl) fun v3 => ?_
    refine sj_ig fun h3 => ?_
    refine sj_ite (cEq rfl (eLit 1) ⟨h3, (by decide)⟩) ?_ ?_
    · exact (v_C1_countApart_43 hk11 x1 rfl rfl)
    · refine sj_b (v_C1_markAt rfl) fun v4 => ?_
      refine sj_ig fun h4 => ?_
      refine sj_ite (cEq rfl (eLit 2) ⟨h4, (by decide)⟩) ?_ ?_
      · exact (v_C1_countApart_43 hk11 x1 rfl rfl)
      · exact (v_C1_countApart_46 hk11 x1 rfl rfl)
def G1_countApart_11 : Nat → Nat → Int → Int → JM Int
  | 0 => fun _ _ _ => nof
  | n + 1 => fun x1 x3 x4 => G1_countApart_11_st  (G1_countApart_11  n) x1 x3 x4
theorem v_C1_countApart_11  : ∀ (n : Nat) (x1 : Nat) {n_x3 : Int32} {x3 : Int} (e_x3 : n_x3 = iI x3) {n_x4 : Int32} {x4 : Int} (e_x4 : n_x4 = iI x4), Sj iI (C1_countApart_11  n x1 n_x3 n_x4) (G1_countApart_11  n x1 x3 x4) := by
  intro n
  induction n with
  | zero => intro x1 n_x3 x3 e_x3 n_x4 x4 e_x4; exact sj_nf
  | succ n ih => intro x1 n_x3 x3 e_x3 n_x4 x4 e_x4; exact v_C1_countApart_11_st  (ih) x1 e_x3 e_x4
def G1_countApart (a1 : Nat) (a2 : Nat) : JM Int :=
  ib (G1_markBoth a1 a2) fun _ =>
  (G1_countApart_11 LFU a1 0 0)
theorem v_C1_countApart  (a1 : Nat) (a2 : Nat) : Sj iI (C1_countApart  a1 a2) (G1_countApart  a1 a2) := by
  unfold C1_countApart G1_countApart
  refine sj_b (v_C1_markBoth a1 a2) fun _ => ?_
  exact (v_C1_countApart_11 LFU a1 (eLit 0) (eLit 0))
def G11_apart_22 : JM Int :=
  ib (G11_refuse 1) fun v1 =>
  jret v1
theorem v_C11_apart_22  : Sj iI (C11_apart_22  ) (G11_apart_22  ) := by
  unfold C11_apart_22 G11_apart_22
  refine sj_b (v_C11_refuse (eLit 1)) fun v1 => ?_
  exact sj_re rfl
def G11_apart (a1 : Int) (a2 : Int) : JM Int :=
  ib (G11_copyAt a1) fun v1 =>
  ib (G11_copyAt a2) fun v2 =>
  jcon v1 (G11_apart_22) (fun i3 =>
  jcon v2 (G11_apart_22) (fun i4 =>
  ib (jG 12 i3) fun v5 =>
  ib (jG 12 i4) fun v6 =>
  ig (R32 v5) <|
  ig (R32 v6) <|
  if v5 = v6 then (ib (G1_countApart i3 i4) fun v7 =>
  ib (G11_answer v7) fun v8 =>
  jret v8) else (ib (G11_refuse 4) fun v9 =>
  jret v9)))
theorem v_C11_apart  {n_a1 : Int32} {a1 : Int} (e_a1 : n_a1 = iI a1) {n_a2 : Int32} {a2 : Int} (e_a2 : n_a2 = iI a2) : Sj iI (C11_apart  n_a1 n_a2) (G11_apart  a1 a2) := by
  subst e_a1
  subst e_a2
  unfold C11_apart G11_apart
  refine sj_b (v_C11_copyAt rfl) fun v1 => ?_
  refine sj_b (v_C11_copyAt rfl) fun v2 => ?_
  refine sj_con ?_ (fun i3 => ?_)
  · exact v_C11_apart_22
  · refine sj_con ?_ (fun i4 => ?_)
    · exact v_C11_apart_22
    · refine sj_b sj_G fun v5 => ?_
      refine sj_b sj_G fun v6 => ?_
      refine sj_ig fun h1 => ?_
      refine sj_ig fun h2 => ?_
      refine sj_ite (cEq rfl rfl ⟨h1, h2⟩) ?_ ?_
      · refine sj_b (v_C1_countApart i3 i4) fun v7 => ?_
        refine sj_b (v_C11_answer rfl) fun v8 => ?_
        exact sj_re rfl
      · refine sj_b (v_C11_refuse (eLit 4)) fun v9 => ?_
        exact sj_re rfl
def G1_listTogether_41 (k13 : Nat → Nat → Int → JM Unit) (x1 : Nat) (x3 : Nat) (x4 : Int) : JM Unit :=
  (k13 x1 x3 (x4 + 1))
theorem v_C1_listTogether_41 {n_k13 : Nat → Nat → Int32 → CM Unit} {k13 : Nat → Nat → Int → JM Unit} (hk13 : ∀ (z0 : Nat) (z1 : Nat) {n2 : Int32} {z2 : Int} (_ : n2 = iI z2), Sj (fun x : Unit => x) (n_k13 z0 z1 n2) (k13 z0 z1 z2)) (x1 : Nat) (x3 : Nat) {n_x4 : Int32} {x4 : Int} (e_x4 : n_x4 = iI x4) : Sj (fun x : Unit => x) (C1_listTogether_41 n_k13 x1 x3 n_x4) (G1_listTogether_41 k13 x1 x3 x4) := by
  subst e_x4
  unfold C1_listTogether_41 G1_listTogether_41
  exact (hk13 x1 x3 (eAdd rfl (eLit 1)))
def G1_listTogether_13_st (k13 : Nat → Nat → Int → JM Unit) (x1 : Nat) (x3 : Nat) (x4 : Int) : JM Unit :=
  ib (jR x1) fun v1 =>
  ib (jE (3, v1)) fun _ =>
  ib (G0_leafCount v1) fun v2 =>
  ig (R32 v2) <|
  ig (R32 x4) <|
  if v2 ≤ x4 then (jret ()) else (ib (G1_markAt x4) fun v3 =>
  ig (R32 v3) <|
  if v3 = 0 then ((G1_listTogether_41 k13 x1 x3 x4)) else (ib (jE (1, x3)) fun _ =>
  ib (G8_add x3 x4) fun v4 =>
  (G1_listTogether_41 k13 x1 x3 x4)))
theorem v_C1_listTogether_13_st {n_k13 : Nat → Nat → Int32 → CM Unit} {k13 : Nat → Nat → Int → JM Unit} (hk13 : ∀ (z0 : Nat) (z1 : Nat) {n2 : Int32} {z2 : Int} (_ : n2 = iI z2), Sj (fun x : Unit => x) (n_k13 z0 z1 n2) (k13 z0 z1 z2)) (x1 : Nat) (x3 : Nat) {n_x4 : Int32} {x4 : Int} (e_x4 : n_x4 = iI x4) : Sj (fun x : Unit => x) (C1_listTogether_13_st n_k13 x1 x3 n_x4) (G1_listTogether_13_st k13 x1 x3 x4) := by
  subst e_x4
  unfold C1_listTogether_13_st G1_listTogether_13_st
  refine sj_b sj_R fun v1 => ?_
  refine sj_b sj_E fun _ => ?_
  refine sj_b (v_C0_leafCount v1) fun v2 => ?_
  refine sj_ig fun h1 => ?_
  refine sj_ig fun h2 => ?_
  refine sj_ite (cLe rfl rfl ⟨h1, h2⟩) ?_ ?_
  · exact sj_rn
  · refine sj_b (v_C1_markAt rfl) fun v3 => ?_
    refine sj_ig fun h3 => ?_
    refine sj_ite (cEq rfl (eLit 0) ⟨h3, (by decide)⟩) ?_ ?_
    · exact (v_C1_listTogether_41 hk13 x1 x3 rfl)
    · refine sj_b sj_E fun _ => ?_
      refine sj_b (v_C8_add x3 rfl) fun v4 => ?_
      exact (v_C1_listTogether_41 hk13 x1 x3 rfl)
def G1_listTogether_13 : Nat → Nat → Nat → Int → JM Unit
  | 0 => fun _ _ _ => nof
  | n + 1 => fun x1 x3 x4 => G1_listTogether_13_st  (G1_listTogether_13  n) x1 x3 x4
theorem v_C1_listTogether_13  : ∀ (n : Nat) (x1 : Nat) (x3 : Nat) {n_x4 : Int32} {x4 : Int} (e_x4 : n_x4 = iI x4), Sj (fun x : Unit => x) (C1_listTogether_13  n x1 x3 n_x4) (G1_listTogether_13  n x1 x3 x4) := by
  intro n
  induction n with
  | zero => intro x1 x3 n_x4 x4 e_x4; exact sj_nf
  | succ n ih => intro x1 x3 n_x4 x4 e_x4; exact v_C1_listTogether_13_st  (ih) x1 x3 e_x4
def G1_listTogether (a1 : Nat) (a2 : Nat) (a3 : Nat) : JM Unit :=
  ib (G1_markBoth a1 a2) fun _ =>
  ib (jE (1, a3)) fun _ =>
  ib (G8_clear a3) fun _ =>
  (G1_listTogether_13 LFU a1 a3 0)
theorem v_C1_listTogether  (a1 : Nat) (a2 : Nat) (a3 : Nat) : Sj (fun x : Unit => x) (C1_listTogether  a1 a2 a3) (G1_listTogether  a1 a2 a3) := by
  unfold C1_listTogether G1_listTogether
  refine sj_b (v_C1_markBoth a1 a2) fun _ => ?_
  refine sj_b sj_E fun _ => ?_
  refine sj_b (v_C8_clear a3) fun _ => ?_
  exact (v_C1_listTogether_13 LFU a1 a3 (eLit 0))
def G11_status : JM Int :=
  ib (jG 11 0) fun v1 =>
  jret v1
theorem v_C11_status  : Sj iI (C11_status  ) (G11_status  ) := by
  unfold C11_status G11_status
  refine sj_b sj_G fun v1 => ?_
  exact sj_re rfl
def G0_init2 (b : Nat) : JM Unit :=
  ib (jE (3, b)) fun _ =>
  ib (jE (2, (b + 1))) fun _ =>
  ib (G6_copyFrom (b + 1) 0) fun _ =>
  (G0_init_95 LFU b 0)
theorem v_C0_init2  (b : Nat) : Sj (fun x : Unit => x) (C0_init2  b) (G0_init2  b) := by
  unfold C0_init2 G0_init2
  refine sj_b sj_E fun _ => ?_
  refine sj_b sj_E fun _ => ?_
  refine sj_b (v_C6_copyFrom (b + 1) 0) fun _ => ?_
  exact (v_C0_init_95 LFU b (eLit 0))
def G9_formulaText_12_st (k12 : Nat → Int → Int → JM Nat) (x1 : Nat) (x2 : Int) (x3 : Int) : JM Nat :=
  ib (jG 6 x1) fun v1 =>
  ig (R32 v1) <|
  ig (R32 x3) <|
  if v1 ≤ x3 then ((jTos 16384)) else (ib (G9_goesOn x1 x3) fun v2 =>
  ig (R32 v2) <|
  if v2 = 0 then (ib (G9_writeGroup x1 x2 x3) fun _ =>
  (k12 x1 (x3 + 1) (x3 + 1))) else ((k12 x1 x2 (x3 + 1))))
theorem v_C9_formulaText_12_st {n_k12 : Nat → Int32 → Int32 → CM Nat} {k12 : Nat → Int → Int → JM Nat} (hk12 : ∀ (z0 : Nat) {n1 : Int32} {z1 : Int} (_ : n1 = iI z1) {n2 : Int32} {z2 : Int} (_ : n2 = iI z2), Sj (fun x : Nat => x) (n_k12 z0 n1 n2) (k12 z0 z1 z2)) (x1 : Nat) {n_x2 : Int32} {x2 : Int} (e_x2 : n_x2 = iI x2) {n_x3 : Int32} {x3 : Int} (e_x3 : n_x3 = iI x3) : Sj (fun x : Nat => x) (C9_formulaText_12_st n_k12 x1 n_x2 n_x3) (G9_formulaText_12_st k12 x1 x2 x3) := by
  subst e_x2
  subst e_x3
  unfold C9_formulaText_12_st G9_formulaText_12_st
  refine sj_b sj_G fun v1 => ?_
  refine sj_ig fun h1 => ?_
  refine sj_ig fun h2 => ?_
  refine sj_ite (cLe rfl rfl ⟨h1, h2⟩) ?_ ?_
  · exact sj_Tos
  · refine sj_b (v_C9_goesOn x1 rfl) fun v2 => ?_
    refine sj_ig fun h3 => ?_
    refine sj_ite (cEq rfl (eLit 0) ⟨h3, (by decide)⟩) ?_ ?_
    · refine sj_b (v_C9_writeGroup x1 rfl rfl) fun _ => ?_
      exact (hk12 x1 (eAdd rfl (eLit 1)) (eAdd rfl (eLit 1)))
    · exact (hk12 x1 rfl (eAdd rfl (eLit 1)))
def G9_formulaText_12 : Nat → Nat → Int → Int → JM Nat
  | 0 => fun _ _ _ => nof
  | n + 1 => fun x1 x2 x3 => G9_formulaText_12_st  (G9_formulaText_12  n) x1 x2 x3
theorem v_C9_formulaText_12  : ∀ (n : Nat) (x1 : Nat) {n_x2 : Int32} {x2 : Int} (e_x2 : n_x2 = iI x2) {n_x3 : Int32} {x3 : Int} (e_x3 : n_x3 = iI x3), Sj (fun x : Nat => x) (C9_formulaText_12  n x1 n_x2 n_x3) (G9_formulaText_12  n x1 x2 x3) := by
  intro n
  induction n with
  | zero => intro x1 n_x2 x2 e_x2 n_x3 x3 e_x3; exact sj_nf
  | succ n ih => intro x1 n_x2 x2 e_x2 n_x3 x3 e_x3; exact v_C9_formulaText_12_st  (ih) x1 e_x2 e_x3
def G9_formulaText (p : Nat) : JM Nat :=
  ib jX0 fun _ =>
  (G9_formulaText_12 LFU p 0 0)
theorem v_C9_formulaText  (p : Nat) : Sj (fun x : Nat => x) (C9_formulaText  p) (G9_formulaText  p) := by
  unfold C9_formulaText G9_formulaText
  refine sj_b sj_X0 fun _ => ?_
  exact (v_C9_formulaText_12 LFU p (eLit 0) (eLit 0))
def G9_nameText (i : Nat) (p : Int) : JM Nat :=
  ib jX0 fun _ =>
  ib (G9_writeName i p) fun _ =>
  (jTos 100)
theorem v_C9_nameText  (i : Nat) {n_p : Int32} {p : Int} (e_p : n_p = iI p) : Sj (fun x : Nat => x) (C9_nameText  i n_p) (G9_nameText  i p) := by
  subst e_p
  unfold C9_nameText G9_nameText
  refine sj_b sj_X0 fun _ => ?_
  refine sj_b (v_C9_writeName i rfl) fun _ => ?_
  exact sj_Tos
def G9_noteText (c : Nat) : JM Nat :=
  ib jX0 fun _ =>
  ib (jR c) fun v3 =>
  ib (jE (4, c)) fun _ =>
  ib (G9_writeRuns 5 v3 (201 + (5 * c))) fun _ =>
  ib (jR c) fun v6 =>
  ib (jE (4, c)) fun _ =>
  ib (G9_writeRuns 8 v6 (202 + (5 * c))) fun _ =>
  ib (G9_writeMoved c) fun _ =>
  (jTos 16384)
theorem v_C9_noteText  (c : Nat) : Sj (fun x : Nat => x) (C9_noteText  c) (G9_noteText  c) := by
  unfold C9_noteText G9_noteText
  refine sj_b sj_X0 fun _ => ?_
  refine sj_b sj_R fun v3 => ?_
  refine sj_b sj_E fun _ => ?_
  refine sj_b (v_C9_writeRuns 5 v3 (201 + (5 * c))) fun _ => ?_
  refine sj_b sj_R fun v6 => ?_
  refine sj_b sj_E fun _ => ?_
  refine sj_b (v_C9_writeRuns 8 v6 (202 + (5 * c))) fun _ => ?_
  refine sj_b (v_C9_writeMoved c) fun _ => ?_
  exact sj_Tos
def G11_closeBook (a1 : Int) : JM Int :=
  ib (G10_cutTo 0) fun _ =>
  ig (R32 a1) <|
  if a1 = 0 then (ib (jG 8 0) fun v2 =>
  ig (R32 v2) <|
  if v2 < 8 then (ib (jG 8 0) fun v6 =>
  ib (G9_formulaText 0) fun s =>
  ib (jNB s) fun b =>
  ib (G0_init2 b) fun _ =>
  ib (jSB v6 b) fun _ =>
  ib (jG 8 0) fun v12 =>
  ib (jP 8 0 (v12 + 1)) fun _ =>
  ib (G11_answer v12) fun v13 =>
  (jg9 v13)) else (ib (G11_refuse 9) fun v14 =>
  jret v14)) else (ib (G11_refuse a1) fun v15 =>
  jret v15)
theorem v_C11_closeBook  {n_a1 : Int32} {a1 : Int} (e_a1 : n_a1 = iI a1) : Sj iI (C11_closeBook  n_a1) (G11_closeBook  a1) := by
  subst e_a1
  unfold C11_closeBook G11_closeBook
  refine sj_b (v_C10_cutTo (eLit 0)) fun _ => ?_
  refine sj_ig fun h1 => ?_
  refine sj_ite (cEq rfl (eLit 0) ⟨h1, (by decide)⟩) ?_ ?_
  · refine sj_b sj_G fun v2 => ?_
    refine sj_ig fun h2 => ?_
    refine sj_ite (cLt rfl (eLit 8) ⟨h2, (by decide)⟩) ?_ ?_
    · refine sj_b sj_G fun v6 => ?_
      refine sj_b (v_C9_formulaText 0) fun s => ?_
      refine sj_b sj_NB fun b => ?_
      refine sj_b (v_C0_init2 b) fun _ => ?_
      refine sj_b (sj_SB rfl) fun _ => ?_
      refine sj_b sj_G fun v12 => ?_
      refine sj_b (sj_P (eAdd rfl (eLit 1))) fun _ => ?_
      refine sj_b (v_C11_answer rfl) fun v13 => ?_
      exact (sj_g9 rfl)
    · refine sj_b (v_C11_refuse (eLit 9)) fun v14 => ?_
      exact sj_re rfl
  · refine sj_b (v_C11_refuse rfl) fun v15 => ?_
    exact sj_re rfl
def G2_init2 (c : Nat) : JM Unit :=
  ib (jE (4, c)) fun _ =>
  ib (jE (1, (200 + (5 * c)))) fun _ =>
  ib (G8_copyFrom (200 + (5 * c)) 12) fun _ =>
  jret ()
theorem v_C2_init2  (c : Nat) : Sj (fun x : Unit => x) (C2_init2  c) (G2_init2  c) := by
  unfold C2_init2 G2_init2
  refine sj_b sj_E fun _ => ?_
  refine sj_b sj_E fun _ => ?_
  refine sj_b (v_C8_copyFrom (200 + (5 * c)) 12) fun _ => ?_
  exact sj_rn
def G11_keepCopy (n : Int) (b : Nat) : JM Int :=
  ib (jG 9 0) fun v1 =>
  ig (R32 v1) <|
  if 16 ≤ v1 then (ib (G11_refuse 9) fun v =>
  jret v) else (ib (jNC n b 4) fun c =>
  ib (G2_init2 c) fun _ =>
  ib (G1_collate c) fun _ =>
  ib (G9_noteText c) fun s =>
  ib (jPN c s) fun _ =>
  ib (jG 9 0) fun v10 =>
  ib (jSC v10 c) fun _ =>
  ib (jG 9 0) fun v11 =>
  ib (jP 9 0 (v11 + 1)) fun _ =>
  ib (G11_answer v11) fun v =>
  (jg9 v))
theorem v_C11_keepCopy  {n_n : Int32} {n : Int} (e_n : n_n = iI n) (b : Nat) : Sj iI (C11_keepCopy  n_n b) (G11_keepCopy  n b) := by
  subst e_n
  unfold C11_keepCopy G11_keepCopy
  refine sj_b sj_G fun v1 => ?_
  refine sj_ig fun h1 => ?_
  refine sj_ite (cLe (eLit 16) rfl ⟨(by decide), h1⟩) ?_ ?_
  · refine sj_b (v_C11_refuse (eLit 9)) fun v => ?_
    exact sj_re rfl
  · refine sj_b (sj_NC rfl) fun c => ?_
    refine sj_b (v_C2_init2 c) fun _ => ?_
    refine sj_b (v_C1_collate c) fun _ => ?_
    refine sj_b (v_C9_noteText c) fun s => ?_
    refine sj_b sj_PN fun _ => ?_
    refine sj_b sj_G fun v10 => ?_
    refine sj_b (sj_SC rfl) fun _ => ?_
    refine sj_b sj_G fun v11 => ?_
    refine sj_b (sj_P (eAdd rfl (eLit 1))) fun _ => ?_
    refine sj_b (v_C11_answer rfl) fun v => ?_
    exact (sj_g9 rfl)
def G11_book : JM Int :=
  ib (jP 10 0 0) fun _ =>
  ib G7_readsFormula fun v2 =>
  ig (R32 v2) <|
  if v2 = 0 then (ib (G11_closeBook 2) fun v =>
  jret v) else (ib G11_draftFormula fun v3 =>
  ib (G11_closeBook v3) fun v =>
  jret v)
theorem v_C11_book  : Sj iI (C11_book  ) (G11_book  ) := by
  unfold C11_book G11_book
  refine sj_b (sj_P (eLit 0)) fun _ => ?_
  refine sj_b v_C7_readsFormula fun v2 => ?_
  refine sj_ig fun h1 => ?_
  refine sj_ite (cEq rfl (eLit 0) ⟨h1, (by decide)⟩) ?_ ?_
  · refine sj_b (v_C11_closeBook (eLit 2)) fun v => ?_
    exact sj_re rfl
  · refine sj_b v_C11_draftFormula fun v3 => ?_
    refine sj_b (v_C11_closeBook rfl) fun v => ?_
    exact sj_re rfl
def G11_change (a1 : Int) : JM Int :=
  ib (G11_bookAt a1) fun v1 =>
  jcon v1 (ib (G11_closeBook 1) fun v =>
  jret v) (fun i =>
  ib (jP 10 0 0) fun _ =>
  ib G7_readsChanges fun v4 =>
  ig (R32 v4) <|
  if v4 = 0 then (ib (G11_closeBook 2) fun v =>
  jret v) else (ib (G11_draftChanges i) fun v5 =>
  ib (G11_closeBook v5) fun v =>
  jret v))
theorem v_C11_change  {n_a1 : Int32} {a1 : Int} (e_a1 : n_a1 = iI a1) : Sj iI (C11_change  n_a1) (G11_change  a1) := by
  subst e_a1
  unfold C11_change G11_change
  refine sj_b (v_C11_bookAt rfl) fun v1 => ?_
  refine sj_con ?_ (fun i => ?_)
  · refine sj_b (v_C11_closeBook (eLit 1)) fun v => ?_
    exact sj_re rfl
  · refine sj_b (sj_P (eLit 0)) fun _ => ?_
    refine sj_b v_C7_readsChanges fun v4 => ?_
    refine sj_ig fun h1 => ?_
    refine sj_ite (cEq rfl (eLit 0) ⟨h1, (by decide)⟩) ?_ ?_
    · refine sj_b (v_C11_closeBook (eLit 2)) fun v => ?_
      exact sj_re rfl
    · refine sj_b (v_C11_draftChanges i) fun v5 => ?_
      refine sj_b (v_C11_closeBook rfl) fun v => ?_
      exact sj_re rfl
def G11_copy_48 (n : Int) (i : Nat) (y : Int) : JM Int :=
  ib (G10_cutTo 0) fun _ =>
  ig (R32 y) <|
  if y = 0 then (ib (G11_keepCopy n i) fun v =>
  jret v) else (ib (G11_refuse y) fun v =>
  jret v)
theorem v_C11_copy_48  {n_n : Int32} {n : Int} (e_n : n_n = iI n) (i : Nat) {n_y : Int32} {y : Int} (e_y : n_y = iI y) : Sj iI (C11_copy_48  n_n i n_y) (G11_copy_48  n i y) := by
  subst e_n
  subst e_y
  unfold C11_copy_48 G11_copy_48
  refine sj_b (v_C10_cutTo (eLit 0)) fun _ => ?_
  refine sj_ig fun h1 => ?_
  refine sj_ite (cEq rfl (eLit 0) ⟨h1, (by decide)⟩) ?_ ?_
  · refine sj_b (v_C11_keepCopy rfl i) fun v => ?_
    exact sj_re rfl
  · refine sj_b (v_C11_refuse rfl) fun v => ?_
    exact sj_re rfl
def G11_copy (a1 : Int) : JM Int :=
  ib (G11_bookAt a1) fun v1 =>
  jcon v1 (ib (G10_cutTo 0) fun _ =>
  ib (G11_refuse 1) fun v =>
  jret v) (fun i =>
  ib (jP 10 0 0) fun _ =>
  ib G7_readsRow fun v5 =>
  ig (R32 v5) <|
  if v5 = 0 then ((G11_copy_48 a1 i 2)) else (ib (G11_draftRow i) fun v6 =>
  (G11_copy_48 a1 i v6)))
theorem v_C11_copy  {n_a1 : Int32} {a1 : Int} (e_a1 : n_a1 = iI a1) : Sj iI (C11_copy  n_a1) (G11_copy  a1) := by
  subst e_a1
  unfold C11_copy G11_copy
  refine sj_b (v_C11_bookAt rfl) fun v1 => ?_
  refine sj_con ?_ (fun i => ?_)
  · refine sj_b (v_C10_cutTo (eLit 0)) fun _ => ?_
    refine sj_b (v_C11_refuse (eLit 1)) fun v => ?_
    exact sj_re rfl
  · refine sj_b (sj_P (eLit 0)) fun _ => ?_
    refine sj_b v_C7_readsRow fun v5 => ?_
    refine sj_ig fun h1 => ?_
    refine sj_ite (cEq rfl (eLit 0) ⟨h1, (by decide)⟩) ?_ ?_
    · exact (v_C11_copy_48 rfl i (eLit 2))
    · refine sj_b (v_C11_draftRow i) fun v6 => ?_
      exact (v_C11_copy_48 rfl i rfl)
def G11_name (a1 : Int) (a2 : Int) (a3 : Int) : JM Int :=
  ib (G11_bookWithLeaf a1 a2) fun v1 =>
  jcon v1 (ib (G11_refuse 1) fun v =>
  jret v) (fun i =>
  ib (G9_nameText i a2) fun s =>
  ib (G11_byteOf s a3) fun v =>
  jret v)
theorem v_C11_name  {n_a1 : Int32} {a1 : Int} (e_a1 : n_a1 = iI a1) {n_a2 : Int32} {a2 : Int} (e_a2 : n_a2 = iI a2) {n_a3 : Int32} {a3 : Int} (e_a3 : n_a3 = iI a3) : Sj iI (C11_name  n_a1 n_a2 n_a3) (G11_name  a1 a2 a3) := by
  subst e_a1
  subst e_a2
  subst e_a3
  unfold C11_name G11_name
  refine sj_b (v_C11_bookWithLeaf rfl rfl) fun v1 => ?_
  refine sj_con ?_ (fun i => ?_)
  · refine sj_b (v_C11_refuse (eLit 1)) fun v => ?_
    exact sj_re rfl
  · refine sj_b (v_C9_nameText i rfl) fun s => ?_
    refine sj_b (v_C11_byteOf s rfl) fun v => ?_
    exact sj_re rfl
def G11_together_22 : JM Int :=
  ib (G11_refuse 1) fun v =>
  jret v
theorem v_C11_together_22  : Sj iI (C11_together_22  ) (G11_together_22  ) := by
  unfold C11_together_22 G11_together_22
  refine sj_b (v_C11_refuse (eLit 1)) fun v => ?_
  exact sj_re rfl
def G11_together (a1 : Int) (a2 : Int) : JM Int :=
  ib (G11_copyAt a1) fun v1 =>
  ib (G11_copyAt a2) fun v2 =>
  jcon v1 (G11_together_22) (fun i1 =>
  jcon v2 (G11_together_22) (fun i2 =>
  ib (jG 12 i1) fun v3 =>
  ib (jG 12 i2) fun v4 =>
  ig (R32 v3) <|
  ig (R32 v4) <|
  if v3 = v4 then (ib (G1_listTogether i1 i2 12) fun _ =>
  ib (jG 12 i1) fun v8 =>
  ib (jR i1) fun v9 =>
  ib (G11_keepCopy v8 v9) fun v =>
  jret v) else (ib (G11_refuse 4) fun v =>
  jret v)))
theorem v_C11_together  {n_a1 : Int32} {a1 : Int} (e_a1 : n_a1 = iI a1) {n_a2 : Int32} {a2 : Int} (e_a2 : n_a2 = iI a2) : Sj iI (C11_together  n_a1 n_a2) (G11_together  a1 a2) := by
  subst e_a1
  subst e_a2
  unfold C11_together G11_together
  refine sj_b (v_C11_copyAt rfl) fun v1 => ?_
  refine sj_b (v_C11_copyAt rfl) fun v2 => ?_
  refine sj_con ?_ (fun i1 => ?_)
  · exact v_C11_together_22
  · refine sj_con ?_ (fun i2 => ?_)
    · exact v_C11_together_22
    · refine sj_b sj_G fun v3 => ?_
      refine sj_b sj_G fun v4 => ?_
      refine sj_ig fun h1 => ?_
      refine sj_ig fun h2 => ?_
      refine sj_ite (cEq rfl rfl ⟨h1, h2⟩) ?_ ?_
      · refine sj_b (v_C1_listTogether i1 i2 12) fun _ => ?_
        refine sj_b sj_G fun v8 => ?_
        refine sj_b sj_R fun v9 => ?_
        refine sj_b (v_C11_keepCopy rfl v9) fun v => ?_
        exact sj_re rfl
      · refine sj_b (v_C11_refuse (eLit 4)) fun v => ?_
        exact sj_re rfl
