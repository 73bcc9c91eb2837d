def N12_fine (a1 : Int32) : NM Int32 :=
  nb (npI 2 (0 : Int32)) fun _ =>
  nr a1
theorem t_X12_fine {m : Nat} {rf : Nat → Option Nat} (a1 : Int32) : Sm m rf (X12_fine m a1) (N12_fine a1) := by
  unfold X12_fine N12_fine
  refine sm_pI (k := 2) (by decide) rfl ?_
  exact sm_ret
def N12_no (a1 : Int32) : NM Int32 :=
  nb (npI 2 a1) fun _ =>
  nr (-9 : Int32)
theorem t_X12_no {m : Nat} {rf : Nat → Option Nat} (a1 : Int32) : Sm m rf (X12_no m a1) (N12_no a1) := by
  unfold X12_no N12_no
  refine sm_pI (k := 2) (by decide) rfl ?_
  exact sm_ret
def N12_isIn (a0 : Int32) (a1 : Int32) (a2 : Int32) : NM Int32 :=
  if a0 < a1 then (nr (0 : Int32)) else (if a2 < a0 then (nr (0 : Int32)) else (nr (1 : Int32)))
theorem t_X12_isIn {m : Nat} {rf : Nat → Option Nat} (a0 : Int32) (a1 : Int32) (a2 : Int32) : Sm m rf (X12_isIn a0 a1 a2) (N12_isIn a0 a1 a2) := by
  unfold X12_isIn N12_isIn
  refine sm_ite ?_ ?_
  · exact sm_ret
  · refine sm_ite ?_ ?_
    · exact sm_ret
    · exact sm_ret
def N12_isBook (a1 : Int32) : NM Int32 :=
  nb (ngI 5) fun v1 =>
  nb (N12_isIn a1 (0 : Int32) (v1 - (1 : Int32))) fun v2 =>
  nb (nnz v2) fun v3 =>
  nr v3
theorem t_X12_isBook {m : Nat} {rf : Nat → Option Nat} (a1 : Int32) : Sm m rf (X12_isBook m a1) (N12_isBook a1) := by
  unfold X12_isBook N12_isBook
  refine sm_gI (k := 5) (by decide) rfl fun v1 => ?_
  refine sm_cal (t_X12_isIn a1 (0 : Int32) (v1 - (1 : Int32))) fun v2 => ?_
  refine sm_nz fun v3 => ?_
  exact sm_ret
def N12_isCopy (a1 : Int32) : NM Int32 :=
  nb (ngI 15) fun v1 =>
  nb (N12_isIn a1 (0 : Int32) (v1 - (1 : Int32))) fun v2 =>
  nb (nnz v2) fun v3 =>
  nr v3
theorem t_X12_isCopy {m : Nat} {rf : Nat → Option Nat} (a1 : Int32) : Sm m rf (X12_isCopy m a1) (N12_isCopy a1) := by
  unfold X12_isCopy N12_isCopy
  refine sm_gI (k := 15) (by decide) rfl fun v1 => ?_
  refine sm_cal (t_X12_isIn a1 (0 : Int32) (v1 - (1 : Int32))) fun v2 => ?_
  refine sm_nz fun v3 => ?_
  exact sm_ret
def N12_spot (a0 : Int32) (a1 : Int32) (a2 : Int32) : NM Int32 :=
  nr ((((a0 * (71 : Int32)) + a1) * (13 : Int32)) + a2)
theorem t_X12_spot {m : Nat} {rf : Nat → Option Nat} (a0 : Int32) (a1 : Int32) (a2 : Int32) : Sm m rf (X12_spot a0 a1 a2) (N12_spot a0 a1 a2) := by
  unfold X12_spot N12_spot
  exact sm_ret
def N12_gatheringOf_2_st  (k2 : Int32 → Int32 → Int32 → NM Int32) (x1 : Int32) (x2 : Int32) (x3 : Int32) : NM Int32 :=
  nb (naI 6 x1) fun v1 =>
  if v1 ≤ x3 then (nr (-1 : Int32)) else (nb (naI 7 ((x1 * (71 : Int32)) + x3)) fun v2 =>
  if v2 = x2 then (nr x3) else ((k2 x1 x2 (x3 + (1 : Int32)))))
def N12_gatheringOf_2  : Nat → Int32 → Int32 → Int32 → NM Int32
  | 0 => fun _ _ _ => nf
  | n + 1 => fun x1 x2 x3 => N12_gatheringOf_2_st  (N12_gatheringOf_2  n) x1 x2 x3
def N12_gatheringOf (a1 : Int32) (a2 : Int32) : NM Int32 :=
  (N12_gatheringOf_2  LFU a1 a2 (0 : Int32))
theorem t_X12_gatheringOf_2_st {m : Nat} {rf : Nat → Option Nat} {k2 : Int32 → Int32 → Int32 → NM Int32} (K2 : Nat → Int32 → Int32 → Int32 → MM Int32) (hk2 : ∀ (x1 : Int32) (x2 : Int32) (x3 : Int32), Sm m rf (K2 m x1 x2 x3) (k2 x1 x2 x3)) (x1 : Int32) (x2 : Int32) (x3 : Int32) : Sm m rf (X12_gatheringOf_2_st  K2 m x1 x2 x3) (N12_gatheringOf_2_st  k2 x1 x2 x3) := by
  unfold X12_gatheringOf_2_st N12_gatheringOf_2_st
  refine sm_gR (k := 6) (by decide) rfl ?_
  refine sm_aI fun v1 => ?_
  refine sm_ite ?_ ?_
  · exact sm_ret
  · refine sm_gR (k := 7) (by decide) rfl ?_
    refine sm_aI fun v2 => ?_
    refine sm_ite ?_ ?_
    · exact sm_ret
    · exact hk2 x1 x2 (x3 + (1 : Int32))
theorem t_X12_gatheringOf_2 {m : Nat} {rf : Nat → Option Nat} : ∀ (n : Nat) (x1 : Int32) (x2 : Int32) (x3 : Int32), Sm m rf (X12_gatheringOf_2  n m x1 x2 x3) (N12_gatheringOf_2  n x1 x2 x3) := by
  intro n
  induction n with
  | zero => intro x1 x2 x3; exact sm_mf
  | succ n ih => intro x1 x2 x3; exact t_X12_gatheringOf_2_st  _ ih x1 x2 x3
theorem t_X12_gatheringOf {m : Nat} {rf : Nat → Option Nat} (a1 : Int32) (a2 : Int32) : Sm m rf (X12_gatheringOf m a1 a2) (N12_gatheringOf a1 a2) := by
  unfold X12_gatheringOf N12_gatheringOf
  exact t_X12_gatheringOf_2  LFU a1 a2 (0 : Int32)
def N12_layOut_122 (k4 : Int32 → Int32 → Int32 → NM Unit) (k17 : Int32 → Int32 → Int32 → Int32 → NM Unit) (x1 : Int32) (x2 : Int32) (x3 : Int32) (x4 : Int32) : NM Unit :=
  (k17 x1 x2 x3 (x4 + (1 : Int32)))
def N12_layOut_60_st (k4 : Int32 → Int32 → Int32 → NM Unit) (k17 : Int32 → Int32 → Int32 → Int32 → NM Unit) (k60 : Int32 → Int32 → Int32 → Int32 → Int32 → Int32 → NM Unit) (x1 : Int32) (x2 : Int32) (x3 : Int32) (x4 : Int32) (x5 : Int32) (x6 : Int32) : NM Unit :=
  nb (naI 10 x5) fun v1 =>
  if v1 < x6 then ((N12_layOut_122 k4 k17 x1 x2 x3 x4)) else (nb (nsI 12 ((x1 * (400 : Int32)) + x2) x3) fun _ =>
  nb (nsI 13 ((x1 * (400 : Int32)) + x2) x4) fun _ =>
  nb (nsI 14 ((x1 * (400 : Int32)) + x2) x6) fun _ =>
  (k60 x1 (x2 + (1 : Int32)) x3 x4 x5 (x6 + (1 : Int32))))
def N12_layOut_60 (k4 : Int32 → Int32 → Int32 → NM Unit) (k17 : Int32 → Int32 → Int32 → Int32 → NM Unit) : Nat → Int32 → Int32 → Int32 → Int32 → Int32 → Int32 → NM Unit
  | 0 => fun _ _ _ _ _ _ => nf
  | n + 1 => fun x1 x2 x3 x4 x5 x6 => N12_layOut_60_st k4 k17 (N12_layOut_60 k4 k17 n) x1 x2 x3 x4 x5 x6
def N12_layOut_58 (k4 : Int32 → Int32 → Int32 → NM Unit) (k17 : Int32 → Int32 → Int32 → Int32 → NM Unit) (x1 : Int32) (x2 : Int32) (x3 : Int32) (x4 : Int32) (x5 : Int32) (y0 : Int32) : NM Unit :=
  (N12_layOut_60 k4 k17 LFU x1 x2 x3 x4 x5 y0)
def N12_layOut_128 (k4 : Int32 → Int32 → Int32 → NM Unit) (x1 : Int32) (x2 : Int32) (x3 : Int32) : NM Unit :=
  (k4 x1 x2 (x3 + (1 : Int32)))
def N12_layOut_17_st (k4 : Int32 → Int32 → Int32 → NM Unit) (k17 : Int32 → Int32 → Int32 → Int32 → NM Unit) (x1 : Int32) (x2 : Int32) (x3 : Int32) (x4 : Int32) : NM Unit :=
  nb (naI 8 ((x1 * (71 : Int32)) + x3)) fun v1 =>
  if v1 < x4 then ((N12_layOut_128 k4 x1 x2 x3)) else (nb (N12_spot x1 x3 x4) fun v2 =>
  nb (naI 9 v2) fun v3 =>
  if v3 = (1 : Int32) then ((N12_layOut_58 k4 k17 x1 x2 x3 x4 v2 (1 : Int32))) else ((N12_layOut_58 k4 k17 x1 x2 x3 x4 v2 (0 : Int32))))
def N12_layOut_17 (k4 : Int32 → Int32 → Int32 → NM Unit) : Nat → Int32 → Int32 → Int32 → Int32 → NM Unit
  | 0 => fun _ _ _ _ => nf
  | n + 1 => fun x1 x2 x3 x4 => N12_layOut_17_st k4 (N12_layOut_17 k4 n) x1 x2 x3 x4
def N12_layOut_4_st  (k4 : Int32 → Int32 → Int32 → NM Unit) (x1 : Int32) (x2 : Int32) (x3 : Int32) : NM Unit :=
  nb (naI 6 x1) fun v1 =>
  if v1 ≤ x3 then (nb (nsI 11 x1 x2) fun _ =>
  nr ()) else ((N12_layOut_17 k4 LFU x1 x2 x3 (1 : Int32)))
def N12_layOut_4  : Nat → Int32 → Int32 → Int32 → NM Unit
  | 0 => fun _ _ _ => nf
  | n + 1 => fun x1 x2 x3 => N12_layOut_4_st  (N12_layOut_4  n) x1 x2 x3
def N12_layOut (a1 : Int32) : NM Unit :=
  (N12_layOut_4  LFU a1 (0 : Int32) (0 : Int32))
theorem t_X12_layOut_122 {m : Nat} {rf : Nat → Option Nat} {k4 : Int32 → Int32 → Int32 → NM Unit} (K4 : Nat → Int32 → Int32 → Int32 → MM Unit) (hk4 : ∀ (x1 : Int32) (x2 : Int32) (x3 : Int32), Sm m rf (K4 m x1 x2 x3) (k4 x1 x2 x3)) {k17 : Int32 → Int32 → Int32 → Int32 → NM Unit} (K17 : Nat → Int32 → Int32 → Int32 → Int32 → MM Unit) (hk17 : ∀ (x1 : Int32) (x2 : Int32) (x3 : Int32) (x4 : Int32), Sm m rf (K17 m x1 x2 x3 x4) (k17 x1 x2 x3 x4)) (x1 : Int32) (x2 : Int32) (x3 : Int32) (x4 : Int32) : Sm m rf (X12_layOut_122 K4 K17 m x1 x2 x3 x4) (N12_layOut_122 k4 k17 x1 x2 x3 x4) := by
  unfold X12_layOut_122 N12_layOut_122
  exact hk17 x1 x2 x3 (x4 + (1 : Int32))
theorem t_X12_layOut_60_st {m : Nat} {rf : Nat → Option Nat} {k4 : Int32 → Int32 → Int32 → NM Unit} (K4 : Nat → Int32 → Int32 → Int32 → MM Unit) (hk4 : ∀ (x1 : Int32) (x2 : Int32) (x3 : Int32), Sm m rf (K4 m x1 x2 x3) (k4 x1 x2 x3)) {k17 : Int32 → Int32 → Int32 → Int32 → NM Unit} (K17 : Nat → Int32 → Int32 → Int32 → Int32 → MM Unit) (hk17 : ∀ (x1 : Int32) (x2 : Int32) (x3 : Int32) (x4 : Int32), Sm m rf (K17 m x1 x2 x3 x4) (k17 x1 x2 x3 x4)) {k60 : Int32 → Int32 → Int32 → Int32 → Int32 → Int32 → NM Unit} (K60 : Nat → Int32 → Int32 → Int32 → Int32 → Int32 → Int32 → MM Unit) (hk60 : ∀ (x1 : Int32) (x2 : Int32) (x3 : Int32) (x4 : Int32) (x5 : Int32) (x6 : Int32), Sm m rf (K60 m x1 x2 x3 x4 x5 x6) (k60 x1 x2 x3 x4 x5 x6)) (x1 : Int32) (x2 : Int32) (x3 : Int32) (x4 : Int32) (x5 : Int32) (x6 : Int32) : Sm m rf (X12_layOut_60_st K4 K17 K60 m x1 x2 x3 x4 x5 x6) (N12_layOut_60_st k4 k17 k60 x1 x2 x3 x4 x5 x6) := by
  unfold X12_layOut_60_st N12_layOut_60_st
  refine sm_gR (k := 10) (by decide) rfl ?_
  refine sm_aI fun v1 => ?_
  refine sm_ite ?_ ?_
  · exact t_X12_layOut_122 _ hk4 _ hk17 x1 x2 x3 x4
  · refine sm_gR (k := 12) (by decide) rfl ?_
    refine sm_sI ?_
    refine sm_gR (k := 13) (by decide) rfl ?_
    refine sm_sI ?_
    refine sm_gR (k := 14) (by decide) rfl ?_
    refine sm_sI ?_
    exact hk60 x1 (x2 + (1 : Int32)) x3 x4 x5 (x6 + (1 : Int32))
theorem t_X12_layOut_60 {m : Nat} {rf : Nat → Option Nat} {k4 : Int32 → Int32 → Int32 → NM Unit} (K4 : Nat → Int32 → Int32 → Int32 → MM Unit) (hk4 : ∀ (x1 : Int32) (x2 : Int32) (x3 : Int32), Sm m rf (K4 m x1 x2 x3) (k4 x1 x2 x3)) {k17 : Int32 → Int32 → Int32 → Int32 → NM Unit} (K17 : Nat → Int32 → Int32 → Int32 → Int32 → MM Unit) (hk17 : ∀ (x1 : Int32) (x2 : Int32) (x3 : Int32) (x4 : Int32), Sm m rf (K17 m x1 x2 x3 x4) (k17 x1 x2 x3 x4)) : ∀ (n : Nat) (x1 : Int32) (x2 : Int32) (x3 : Int32) (x4 : Int32) (x5 : Int32) (x6 : Int32), Sm m rf (X12_layOut_60 K4 K17 n m x1 x2 x3 x4 x5 x6) (N12_layOut_60 k4 k17 n x1 x2 x3 x4 x5 x6) := by
  intro n
  induction n with
  | zero => intro x1 x2 x3 x4 x5 x6; exact sm_mf
  | succ n ih => intro x1 x2 x3 x4 x5 x6; exact t_X12_layOut_60_st _ hk4 _ hk17 _ ih x1 x2 x3 x4 x5 x6
theorem t_X12_layOut_58 {m : Nat} {rf : Nat → Option Nat} {k4 : Int32 → Int32 → Int32 → NM Unit} (K4 : Nat → Int32 → Int32 → Int32 → MM Unit) (hk4 : ∀ (x1 : Int32) (x2 : Int32) (x3 : Int32), Sm m rf (K4 m x1 x2 x3) (k4 x1 x2 x3)) {k17 : Int32 → Int32 → Int32 → Int32 → NM Unit} (K17 : Nat → Int32 → Int32 → Int32 → Int32 → MM Unit) (hk17 : ∀ (x1 : Int32) (x2 : Int32) (x3 : Int32) (x4 : Int32), Sm m rf (K17 m x1 x2 x3 x4) (k17 x1 x2 x3 x4)) (x1 : Int32) (x2 : Int32) (x3 : Int32) (x4 : Int32) (x5 : Int32) (y0 : Int32) : Sm m rf (X12_layOut_58 K4 K17 m x1 x2 x3 x4 x5 y0) (N12_layOut_58 k4 k17 x1 x2 x3 x4 x5 y0) := by
  unfold X12_layOut_58 N12_layOut_58
  exact t_X12_layOut_60 _ hk4 _ hk17 LFU x1 x2 x3 x4 x5 y0
theorem t_X12_layOut_128 {m : Nat} {rf : Nat → Option Nat} {k4 : Int32 → Int32 → Int32 → NM Unit} (K4 : Nat → Int32 → Int32 → Int32 → MM Unit) (hk4 : ∀ (x1 : Int32) (x2 : Int32) (x3 : Int32), Sm m rf (K4 m x1 x2 x3) (k4 x1 x2 x3)) (x1 : Int32) (x2 : Int32) (x3 : Int32) : Sm m rf (X12_layOut_128 K4 m x1 x2 x3) (N12_layOut_128 k4 x1 x2 x3) := by
  unfold X12_layOut_128 N12_layOut_128
  exact hk4 x1 x2 (x3 + (1 : Int32))
theorem t_X12_layOut_17_st {m : Nat} {rf : Nat → Option Nat} {k4 : Int32 → Int32 → Int32 → NM Unit} (K4 : Nat → Int32 → Int32 → Int32 → MM Unit) (hk4 : ∀ (x1 : Int32) (x2 : Int32) (x3 : Int32), Sm m rf (K4 m x1 x2 x3) (k4 x1 x2 x3)) {k17 : Int32 → Int32 → Int32 → Int32 → NM Unit} (K17 : Nat → Int32 → Int32 → Int32 → Int32 → MM Unit) (hk17 : ∀ (x1 : Int32) (x2 : Int32) (x3 : Int32) (x4 : Int32), Sm m rf (K17 m x1 x2 x3 x4) (k17 x1 x2 x3 x4)) (x1 : Int32) (x2 : Int32) (x3 : Int32) (x4 : Int32) : Sm m rf (X12_layOut_17_st K4 K17 m x1 x2 x3 x4) (N12_layOut_17_st k4 k17 x1 x2 x3 x4) := by
  unfold X12_layOut_17_st N12_layOut_17_st
  refine sm_gR (k := 8) (by decide) rfl ?_
  refine sm_aI fun v1 => ?_
  refine sm_ite ?_ ?_
  · exact t_X12_layOut_128 _ hk4 x1 x2 x3
  · refine sm_cal (t_X12_spot x1 x3 x4) fun v2 => ?_
    refine sm_gR (k := 9) (by decide) rfl ?_
    refine sm_aI fun v3 => ?_
    refine sm_ite ?_ ?_
    · exact t_X12_layOut_58 _ hk4 _ hk17 x1 x2 x3 x4 v2 (1 : Int32)
    · exact t_X12_layOut_58 _ hk4 _ hk17 x1 x2 x3 x4 v2 (0 : Int32)
theorem t_X12_layOut_17 {m : Nat} {rf : Nat → Option Nat} {k4 : Int32 → Int32 → Int32 → NM Unit} (K4 : Nat → Int32 → Int32 → Int32 → MM Unit) (hk4 : ∀ (x1 : Int32) (x2 : Int32) (x3 : Int32), Sm m rf (K4 m x1 x2 x3) (k4 x1 x2 x3)) : ∀ (n : Nat) (x1 : Int32) (x2 : Int32) (x3 : Int32) (x4 : Int32), Sm m rf (X12_layOut_17 K4 n m x1 x2 x3 x4) (N12_layOut_17 k4 n x1 x2 x3 x4) := by
  intro n
  induction n with
  | zero => intro x1 x2 x3 x4; exact sm_mf
  | succ n ih => intro x1 x2 x3 x4; exact t_X12_layOut_17_st _ hk4 _ ih x1 x2 x3 x4
theorem t_X12_layOut_4_st {m : Nat} {rf : Nat → Option Nat} {k4 : Int32 → Int32 → Int32 → NM Unit} (K4 : Nat → Int32 → Int32 → Int32 → MM Unit) (hk4 : ∀ (x1 : Int32) (x2 : Int32) (x3 : Int32), Sm m rf (K4 m x1 x2 x3) (k4 x1 x2 x3)) (x1 : Int32) (x2 : Int32) (x3 : Int32) : Sm m rf (X12_layOut_4_st  K4 m x1 x2 x3) (N12_layOut_4_st  k4 x1 x2 x3) := by
  unfold X12_layOut_4_st N12_layOut_4_st
  refine sm_gR (k := 6) (by decide) rfl ?_
  refine sm_aI fun v1 => ?_
  refine sm_ite ?_ ?_
  · refine sm_gR (k := 11) (by decide) rfl ?_
    refine sm_sI ?_
    exact sm_ret
  · exact t_X12_layOut_17 _ hk4 LFU x1 x2 x3 (1 : Int32)
theorem t_X12_layOut_4 {m : Nat} {rf : Nat → Option Nat} : ∀ (n : Nat) (x1 : Int32) (x2 : Int32) (x3 : Int32), Sm m rf (X12_layOut_4  n m x1 x2 x3) (N12_layOut_4  n x1 x2 x3) := by
  intro n
  induction n with
  | zero => intro x1 x2 x3; exact sm_mf
  | succ n ih => intro x1 x2 x3; exact t_X12_layOut_4_st  _ ih x1 x2 x3
theorem t_X12_layOut {m : Nat} {rf : Nat → Option Nat} (a1 : Int32) : Sm m rf (X12_layOut m a1) (N12_layOut a1) := by
  unfold X12_layOut N12_layOut
  exact t_X12_layOut_4  LFU a1 (0 : Int32) (0 : Int32)
def N12_total_68 (k4 : Int32 → Int32 → Int32 → NM Int32) (x1 : Int32) (x2 : Int32) (x3 : Int32) : NM Int32 :=
  (k4 x1 x2 (x3 + (1 : Int32)))
def N12_total_31_st (k4 : Int32 → Int32 → Int32 → NM Int32) (k31 : Int32 → Int32 → Int32 → Int32 → NM Int32) (x1 : Int32) (x2 : Int32) (x3 : Int32) (x4 : Int32) : NM Int32 :=
  nb (naI 8 ((x1 * (71 : Int32)) + x3)) fun v1 =>
  if v1 < x4 then ((N12_total_68 k4 x1 x2 x3)) else (nb (N12_spot x1 x3 x4) fun v2 =>
  nb (naI 10 v2) fun v3 =>
  (k31 x1 (x2 + v3) x3 (x4 + (1 : Int32))))
def N12_total_31 (k4 : Int32 → Int32 → Int32 → NM Int32) : Nat → Int32 → Int32 → Int32 → Int32 → NM Int32
  | 0 => fun _ _ _ _ => nf
  | n + 1 => fun x1 x2 x3 x4 => N12_total_31_st k4 (N12_total_31 k4 n) x1 x2 x3 x4
def N12_total_4_st  (k4 : Int32 → Int32 → Int32 → NM Int32) (x1 : Int32) (x2 : Int32) (x3 : Int32) : NM Int32 :=
  nb (naI 6 x1) fun v1 =>
  if v1 ≤ x3 then (nr x2) else (nb (naI 8 ((x1 * (71 : Int32)) + x3)) fun v2 =>
  (N12_total_31 k4 LFU x1 (x2 + v2) x3 (1 : Int32)))
def N12_total_4  : Nat → Int32 → Int32 → Int32 → NM Int32
  | 0 => fun _ _ _ => nf
  | n + 1 => fun x1 x2 x3 => N12_total_4_st  (N12_total_4  n) x1 x2 x3
def N12_total (a1 : Int32) : NM Int32 :=
  (N12_total_4  LFU a1 (0 : Int32) (0 : Int32))
theorem t_X12_total_68 {m : Nat} {rf : Nat → Option Nat} {k4 : Int32 → Int32 → Int32 → NM Int32} (K4 : Nat → Int32 → Int32 → Int32 → MM Int32) (hk4 : ∀ (x1 : Int32) (x2 : Int32) (x3 : Int32), Sm m rf (K4 m x1 x2 x3) (k4 x1 x2 x3)) (x1 : Int32) (x2 : Int32) (x3 : Int32) : Sm m rf (X12_total_68 K4 m x1 x2 x3) (N12_total_68 k4 x1 x2 x3) := by
  unfold X12_total_68 N12_total_68
  exact hk4 x1 x2 (x3 + (1 : Int32))
theorem t_X12_total_31_st {m : Nat} {rf : Nat → Option Nat} {k4 : Int32 → Int32 → Int32 → NM Int32} (K4 : Nat → Int32 → Int32 → Int32 → MM Int32) (hk4 : ∀ (x1 : Int32) (x2 : Int32) (x3 : Int32), Sm m rf (K4 m x1 x2 x3) (k4 x1 x2 x3)) {k31 : Int32 → Int32 → Int32 → Int32 → NM Int32} (K31 : Nat → Int32 → Int32 → Int32 → Int32 → MM Int32) (hk31 : ∀ (x1 : Int32) (x2 : Int32) (x3 : Int32) (x4 : Int32), Sm m rf (K31 m x1 x2 x3 x4) (k31 x1 x2 x3 x4)) (x1 : Int32) (x2 : Int32) (x3 : Int32) (x4 : Int32) : Sm m rf (X12_total_31_st K4 K31 m x1 x2 x3 x4) (N12_total_31_st k4 k31 x1 x2 x3 x4) := by
  unfold X12_total_31_st N12_total_31_st
  refine sm_gR (k := 8) (by decide) rfl ?_
  refine sm_aI fun v1 => ?_
  refine sm_ite ?_ ?_
  · exact t_X12_total_68 _ hk4 x1 x2 x3
  · refine sm_gR (k := 10) (by decide) rfl ?_
    refine sm_cal (t_X12_spot x1 x3 x4) fun v2 => ?_
    refine sm_aI fun v3 => ?_
    exact hk31 x1 (x2 + v3) x3 (x4 + (1 : Int32))
theorem t_X12_total_31 {m : Nat} {rf : Nat → Option Nat} {k4 : Int32 → Int32 → Int32 → NM Int32} (K4 : Nat → Int32 → Int32 → Int32 → MM Int32) (hk4 : ∀ (x1 : Int32) (x2 : Int32) (x3 : Int32), Sm m rf (K4 m x1 x2 x3) (k4 x1 x2 x3)) : ∀ (n : Nat) (x1 : Int32) (x2 : Int32) (x3 : Int32) (x4 : Int32), Sm m rf (X12_total_31 K4 n m x1 x2 x3 x4) (N12_total_31 k4 n x1 x2 x3 x4) := by
  intro n
  induction n with
  | zero => intro x1 x2 x3 x4; exact sm_mf
  | succ n ih => intro x1 x2 x3 x4; exact t_X12_total_31_st _ hk4 _ ih x1 x2 x3 x4
theorem t_X12_total_4_st {m : Nat} {rf : Nat → Option Nat} {k4 : Int32 → Int32 → Int32 → NM Int32} (K4 : Nat → Int32 → Int32 → Int32 → MM Int32) (hk4 : ∀ (x1 : Int32) (x2 : Int32) (x3 : Int32), Sm m rf (K4 m x1 x2 x3) (k4 x1 x2 x3)) (x1 : Int32) (x2 : Int32) (x3 : Int32) : Sm m rf (X12_total_4_st  K4 m x1 x2 x3) (N12_total_4_st  k4 x1 x2 x3) := by
  unfold X12_total_4_st N12_total_4_st
  refine sm_gR (k := 6) (by decide) rfl ?_
  refine sm_aI fun v1 => ?_
  refine sm_ite ?_ ?_
  · exact sm_ret
  · refine sm_gR (k := 8) (by decide) rfl ?_
    refine sm_aI fun v2 => ?_
    exact t_X12_total_31 _ hk4 LFU x1 (x2 + v2) x3 (1 : Int32)
theorem t_X12_total_4 {m : Nat} {rf : Nat → Option Nat} : ∀ (n : Nat) (x1 : Int32) (x2 : Int32) (x3 : Int32), Sm m rf (X12_total_4  n m x1 x2 x3) (N12_total_4  n x1 x2 x3) := by
  intro n
  induction n with
  | zero => intro x1 x2 x3; exact sm_mf
  | succ n ih => intro x1 x2 x3; exact t_X12_total_4_st  _ ih x1 x2 x3
theorem t_X12_total {m : Nat} {rf : Nat → Option Nat} (a1 : Int32) : Sm m rf (X12_total m a1) (N12_total a1) := by
  unfold X12_total N12_total
  exact t_X12_total_4  LFU a1 (0 : Int32) (0 : Int32)
def N12_placeOf_71 (k3 : Int32 → Int32 → Int32 → Int32 → Int32 → NM Int32) (x1 : Int32) (x2 : Int32) (x3 : Int32) (x4 : Int32) (x5 : Int32) : NM Int32 :=
  (k3 x1 x2 x3 x4 (x5 + (1 : Int32)))
def N12_placeOf_3_st  (k3 : Int32 → Int32 → Int32 → Int32 → Int32 → NM Int32) (x1 : Int32) (x2 : Int32) (x3 : Int32) (x4 : Int32) (x5 : Int32) : NM Int32 :=
  nb (naI 11 x1) fun v1 =>
  if v1 ≤ x5 then (nr (-1 : Int32)) else (nb (naI 12 ((x1 * (400 : Int32)) + x5)) fun v2 =>
  nb (naI 7 ((x1 * (71 : Int32)) + v2)) fun v3 =>
  if v3 = x2 then (nb (naI 13 ((x1 * (400 : Int32)) + x5)) fun v4 =>
  if v4 = x3 then (nb (naI 14 ((x1 * (400 : Int32)) + x5)) fun v5 =>
  if v5 = x4 then (nr x5) else ((N12_placeOf_71 k3 x1 x2 x3 x4 x5))) else ((N12_placeOf_71 k3 x1 x2 x3 x4 x5))) else ((N12_placeOf_71 k3 x1 x2 x3 x4 x5)))
def N12_placeOf_3  : Nat → Int32 → Int32 → Int32 → Int32 → Int32 → NM Int32
  | 0 => fun _ _ _ _ _ => nf
  | n + 1 => fun x1 x2 x3 x4 x5 => N12_placeOf_3_st  (N12_placeOf_3  n) x1 x2 x3 x4 x5
def N12_placeOf (a1 : Int32) (a2 : Int32) (a3 : Int32) (a4 : Int32) : NM Int32 :=
  (N12_placeOf_3  LFU a1 a2 a3 a4 (0 : Int32))
theorem t_X12_placeOf_71 {m : Nat} {rf : Nat → Option Nat} {k3 : Int32 → Int32 → Int32 → Int32 → Int32 → NM Int32} (K3 : Nat → Int32 → Int32 → Int32 → Int32 → Int32 → MM Int32) (hk3 : ∀ (x1 : Int32) (x2 : Int32) (x3 : Int32) (x4 : Int32) (x5 : Int32), Sm m rf (K3 m x1 x2 x3 x4 x5) (k3 x1 x2 x3 x4 x5)) (x1 : Int32) (x2 : Int32) (x3 : Int32) (x4 : Int32) (x5 : Int32) : Sm m rf (X12_placeOf_71 K3 m x1 x2 x3 x4 x5) (N12_placeOf_71 k3 x1 x2 x3 x4 x5) := by
  unfold X12_placeOf_71 N12_placeOf_71
  exact hk3 x1 x2 x3 x4 (x5 + (1 : Int32))
theorem t_X12_placeOf_3_st {m : Nat} {rf : Nat → Option Nat} {k3 : Int32 → Int32 → Int32 → Int32 → Int32 → NM Int32} (K3 : Nat → Int32 → Int32 → Int32 → Int32 → Int32 → MM Int32) (hk3 : ∀ (x1 : Int32) (x2 : Int32) (x3 : Int32) (x4 : Int32) (x5 : Int32), Sm m rf (K3 m x1 x2 x3 x4 x5) (k3 x1 x2 x3 x4 x5)) (x1 : Int32) (x2 : Int32) (x3 : Int32) (x4 : Int32) (x5 : Int32) : Sm m rf (X12_placeOf_3_st  K3 m x1 x2 x3 x4 x5) (N12_placeOf_3_st  k3 x1 x2 x3 x4 x5) := by
  unfold X12_placeOf_3_st N12_placeOf_3_st
  refine sm_gR (k := 11) (by decide) rfl ?_
  refine sm_aI fun v1 => ?_
  refine sm_ite ?_ ?_
  · exact sm_ret
  · refine sm_gR (k := 7) (by decide) rfl ?_
    refine sm_gR (k := 12) (by decide) rfl ?_
    refine sm_aI fun v2 => ?_
    refine sm_aI fun v3 => ?_
    refine sm_ite ?_ ?_
    · refine sm_gR (k := 13) (by decide) rfl ?_
      refine sm_aI fun v4 => ?_
      refine sm_ite ?_ ?_
      · refine sm_gR (k := 14) (by decide) rfl ?_
        refine sm_aI fun v5 => ?_
        refine sm_ite ?_ ?_
        · exact sm_ret
        · exact t_X12_placeOf_71 _ hk3 x1 x2 x3 x4 x5
      · exact t_X12_placeOf_71 _ hk3 x1 x2 x3 x4 x5
    · exact t_X12_placeOf_71 _ hk3 x1 x2 x3 x4 x5
theorem t_X12_placeOf_3 {m : Nat} {rf : Nat → Option Nat} : ∀ (n : Nat) (x1 : Int32) (x2 : Int32) (x3 : Int32) (x4 : Int32) (x5 : Int32), Sm m rf (X12_placeOf_3  n m x1 x2 x3 x4 x5) (N12_placeOf_3  n x1 x2 x3 x4 x5) := by
  intro n
  induction n with
  | zero => intro x1 x2 x3 x4 x5; exact sm_mf
  | succ n ih => intro x1 x2 x3 x4 x5; exact t_X12_placeOf_3_st  _ ih x1 x2 x3 x4 x5
theorem t_X12_placeOf {m : Nat} {rf : Nat → Option Nat} (a1 : Int32) (a2 : Int32) (a3 : Int32) (a4 : Int32) : Sm m rf (X12_placeOf m a1 a2 a3 a4) (N12_placeOf a1 a2 a3 a4) := by
  unfold X12_placeOf N12_placeOf
  exact t_X12_placeOf_3  LFU a1 a2 a3 a4 (0 : Int32)
def N12_isPlain (a1 : Int32) (a2 : Int32) : NM Int32 :=
  nb (naI 14 ((a1 * (400 : Int32)) + a2)) fun v1 =>
  if v1 = 0 then (nb (naI 12 ((a1 * (400 : Int32)) + a2)) fun v2 =>
  nb (naI 13 ((a1 * (400 : Int32)) + a2)) fun v3 =>
  nb (N12_spot a1 v2 v3) fun v4 =>
  nb (naI 9 v4) fun v5 =>
  if v5 = 0 then (nr (1 : Int32)) else (nr (0 : Int32))) else (nr (0 : Int32))
theorem t_X12_isPlain {m : Nat} {rf : Nat → Option Nat} (a1 : Int32) (a2 : Int32) : Sm m rf (X12_isPlain m a1 a2) (N12_isPlain a1 a2) := by
  unfold X12_isPlain N12_isPlain
  refine sm_gR (k := 14) (by decide) rfl ?_
  refine sm_aI fun v1 => ?_
  refine sm_ite ?_ ?_
  · refine sm_gR (k := 9) (by decide) rfl ?_
    refine sm_gR (k := 12) (by decide) rfl ?_
    refine sm_aI fun v2 => ?_
    refine sm_gR (k := 13) (by decide) rfl ?_
    refine sm_aI fun v3 => ?_
    refine sm_cal (t_X12_spot a1 v2 v3) fun v4 => ?_
    refine sm_aI fun v5 => ?_
    refine sm_ite ?_ ?_
    · exact sm_ret
    · exact sm_ret
  · exact sm_ret
def N12_conjugate (a1 : Int32) (a2 : Int32) : NM Int32 :=
  nb (naI 12 ((a1 * (400 : Int32)) + a2)) fun v1 =>
  nb (naI 8 ((a1 * (71 : Int32)) + v1)) fun v2 =>
  nb (naI 13 ((a1 * (400 : Int32)) + a2)) fun v3 =>
  nb (N12_isPlain a1 a2) fun v4 =>
  if v4 = 0 then (nr (-1 : Int32)) else (nb (naI 13 ((a1 * (400 : Int32)) + a2)) fun v5 =>
  if ((v2 + (1 : Int32)) - v3) = v5 then (nr (-1 : Int32)) else (nb (naI 7 ((a1 * (71 : Int32)) + v1)) fun v6 =>
  nb (N12_placeOf a1 v6 ((v2 + (1 : Int32)) - v3) (0 : Int32)) fun v7 =>
  if v7 < 0 then (nr (-1 : Int32)) else (nb (N12_isPlain a1 v7) fun v8 =>
  if v8 = 0 then (nr (-1 : Int32)) else (nr v7))))
theorem t_X12_conjugate {m : Nat} {rf : Nat → Option Nat} (a1 : Int32) (a2 : Int32) : Sm m rf (X12_conjugate m a1 a2) (N12_conjugate a1 a2) := by
  unfold X12_conjugate N12_conjugate
  refine sm_gR (k := 12) (by decide) rfl ?_
  refine sm_aI fun v1 => ?_
  refine sm_gR (k := 8) (by decide) rfl ?_
  refine sm_aI fun v2 => ?_
  refine sm_gR (k := 13) (by decide) rfl ?_
  refine sm_aI fun v3 => ?_
  refine sm_wc (t_X12_isPlain a1 a2) fun v4 => ?_
  refine sm_ite ?_ ?_
  · exact sm_ret
  · refine sm_gR (k := 13) (by decide) rfl ?_
    refine sm_aI fun v5 => ?_
    refine sm_ite ?_ ?_
    · exact sm_ret
    · refine sm_gR (k := 7) (by decide) rfl ?_
      refine sm_aI fun v6 => ?_
      refine sm_wc (t_X12_placeOf a1 v6 ((v2 + (1 : Int32)) - v3) (0 : Int32)) fun v7 => ?_
      refine sm_ite ?_ ?_
      · exact sm_ret
      · refine sm_wc (t_X12_isPlain a1 v7) fun v8 => ?_
        refine sm_ite ?_ ?_
        · exact sm_ret
        · exact sm_ret
def N12_isSpelled_60 (k24 : Nat → Int32 → Int32 → NM Int32) (x1 : Nat) (x3 : Int32) (y0 : Int32) : NM Int32 :=
  (k24 x1 y0 (x3 + (1 : Int32)))
def N12_isSpelled_24_st  (k24 : Nat → Int32 → Int32 → NM Int32) (x1 : Nat) (x2 : Int32) (x3 : Int32) : NM Int32 :=
  nb (nSl x1) fun v1 =>
  if v1 ≤ x3 then (nb (nnz x2) fun v2 =>
  nr v2) else (if x2 = 0 then (nb (nnz x2) fun v3 =>
  nr v3) else (nb (ngI 20) fun v4 =>
  nb (naI 0 (v4 + x3)) fun v5 =>
  nb (nSc x1 x3) fun v6 =>
  if v5 = v6 then ((N12_isSpelled_60 k24 x1 x3 (1 : Int32))) else ((N12_isSpelled_60 k24 x1 x3 (0 : Int32)))))
def N12_isSpelled_24  : Nat → Nat → Int32 → Int32 → NM Int32
  | 0 => fun _ _ _ => nf
  | n + 1 => fun x1 x2 x3 => N12_isSpelled_24_st  (N12_isSpelled_24  n) x1 x2 x3
def N12_isSpelled_21  (x1 : Nat) (y0 : Int32) : NM Int32 :=
  (N12_isSpelled_24  LFU x1 y0 (0 : Int32))
def N12_isSpelled (a1 : Nat) : NM Int32 :=
  nb (ngI 19) fun v1 =>
  nb (ngI 20) fun v2 =>
  nb (nSl a1) fun v3 =>
  if (v1 - v2) = v3 then ((N12_isSpelled_21  a1 (1 : Int32))) else ((N12_isSpelled_21  a1 (0 : Int32)))
theorem t_X12_isSpelled_60 {m : Nat} {rf : Nat → Option Nat} {k24 : Nat → Int32 → Int32 → NM Int32} (K24 : Nat → Option Nat → Int32 → Int32 → MM Int32) (hk24 : ∀ (x1 : Nat) (x2 : Int32) (x3 : Int32), Sm m rf (K24 m (rf x1) x2 x3) (k24 x1 x2 x3)) (x1 : Nat) (x3 : Int32) (y0 : Int32) : Sm m rf (X12_isSpelled_60 K24 m (rf x1) x3 y0) (N12_isSpelled_60 k24 x1 x3 y0) := by
  unfold X12_isSpelled_60 N12_isSpelled_60
  exact hk24 x1 y0 (x3 + (1 : Int32))
theorem t_X12_isSpelled_24_st {m : Nat} {rf : Nat → Option Nat} {k24 : Nat → Int32 → Int32 → NM Int32} (K24 : Nat → Option Nat → Int32 → Int32 → MM Int32) (hk24 : ∀ (x1 : Nat) (x2 : Int32) (x3 : Int32), Sm m rf (K24 m (rf x1) x2 x3) (k24 x1 x2 x3)) (x1 : Nat) (x2 : Int32) (x3 : Int32) : Sm m rf (X12_isSpelled_24_st  K24 m (rf x1) x2 x3) (N12_isSpelled_24_st  k24 x1 x2 x3) := by
  unfold X12_isSpelled_24_st N12_isSpelled_24_st
  refine sm_nSl fun v1 => ?_
  refine sm_ite ?_ ?_
  · refine sm_nz fun v2 => ?_
    exact sm_ret
  · refine sm_ite ?_ ?_
    · refine sm_nz fun v3 => ?_
      exact sm_ret
    · refine sm_gR (k := 0) (by decide) rfl ?_
      refine sm_gI (k := 20) (by decide) rfl fun v4 => ?_
      refine sm_aI fun v5 => ?_
      refine sm_nSc fun v6 => ?_
      refine sm_ite ?_ ?_
      · exact t_X12_isSpelled_60 _ hk24 x1 x3 (1 : Int32)
      · exact t_X12_isSpelled_60 _ hk24 x1 x3 (0 : Int32)
theorem t_X12_isSpelled_24 {m : Nat} {rf : Nat → Option Nat} : ∀ (n : Nat) (x1 : Nat) (x2 : Int32) (x3 : Int32), Sm m rf (X12_isSpelled_24  n m (rf x1) x2 x3) (N12_isSpelled_24  n x1 x2 x3) := by
  intro n
  induction n with
  | zero => intro x1 x2 x3; exact sm_mf
  | succ n ih => intro x1 x2 x3; exact t_X12_isSpelled_24_st  _ ih x1 x2 x3
theorem t_X12_isSpelled_21 {m : Nat} {rf : Nat → Option Nat} (x1 : Nat) (y0 : Int32) : Sm m rf (X12_isSpelled_21  m (rf x1) y0) (N12_isSpelled_21  x1 y0) := by
  unfold X12_isSpelled_21 N12_isSpelled_21
  exact t_X12_isSpelled_24  LFU x1 y0 (0 : Int32)
theorem t_X12_isSpelled {m : Nat} {rf : Nat → Option Nat} (a1 : Nat) : Sm m rf (X12_isSpelled m (rf a1)) (N12_isSpelled a1) := by
  unfold X12_isSpelled N12_isSpelled
  refine sm_gI (k := 19) (by decide) rfl fun v1 => ?_
  refine sm_gI (k := 20) (by decide) rfl fun v2 => ?_
  refine sm_nSl fun v3 => ?_
  refine sm_ite ?_ ?_
  · exact t_X12_isSpelled_21  a1 (1 : Int32)
  · exact t_X12_isSpelled_21  a1 (0 : Int32)
def N12_signHere_87  (x1 : Int32) (x2 : Int32) : NM Int32 :=
  if x1 < 0 then (nr (-1 : Int32)) else (if x2 ≤ (3 : Int32) then (nr (((1 : Int32) + ((23 : Int32) * (x2 - (1 : Int32)))) + x1)) else (nr (-1 : Int32)))
def N12_signHere_53_st  (k53 : Int32 → Int32 → Int32 → NM Int32) (x1 : Int32) (x2 : Int32) (x3 : Int32) : NM Int32 :=
  nb (ngI 19) fun v1 =>
  if v1 ≤ x3 then ((N12_signHere_87  x1 x2)) else (nb (naI 0 x3) fun v2 =>
  nb (ngI 20) fun v3 =>
  nb (naI 0 v3) fun v4 =>
  if v2 = v4 then ((k53 x1 x2 (x3 + (1 : Int32)))) else (nr (-1 : Int32)))
def N12_signHere_53  : Nat → Int32 → Int32 → Int32 → NM Int32
  | 0 => fun _ _ _ => nf
  | n + 1 => fun x1 x2 x3 => N12_signHere_53_st  (N12_signHere_53  n) x1 x2 x3
def N12_signHere  : NM Int32 :=
  nb (N12_isSpelled 10) fun v1 =>
  if v1 = 0 then (nb (N12_isSpelled 11) fun v2 =>
  if v2 = 0 then (nb (ngI 20) fun v3 =>
  nb (naI 0 v3) fun v4 =>
  nb (nSi 12 v4) fun v5 =>
  nb (ngI 19) fun v6 =>
  nb (ngI 20) fun v7 =>
  nb (ngI 20) fun v8 =>
  (N12_signHere_53  LFU v5 (v6 - v7) v8)) else (nr (70 : Int32))) else (nr (0 : Int32))
theorem t_X12_signHere_87 {m : Nat} {rf : Nat → Option Nat} (x1 : Int32) (x2 : Int32) : Sm m rf (X12_signHere_87  x1 x2) (N12_signHere_87  x1 x2) := by
  unfold X12_signHere_87 N12_signHere_87
  refine sm_ite ?_ ?_
  · exact sm_ret
  · refine sm_ite ?_ ?_
    · exact sm_ret
    · exact sm_ret
theorem t_X12_signHere_53_st {m : Nat} {rf : Nat → Option Nat} {k53 : Int32 → Int32 → Int32 → NM Int32} (K53 : Nat → Int32 → Int32 → Int32 → MM Int32) (hk53 : ∀ (x1 : Int32) (x2 : Int32) (x3 : Int32), Sm m rf (K53 m x1 x2 x3) (k53 x1 x2 x3)) (x1 : Int32) (x2 : Int32) (x3 : Int32) : Sm m rf (X12_signHere_53_st  K53 m x1 x2 x3) (N12_signHere_53_st  k53 x1 x2 x3) := by
  unfold X12_signHere_53_st N12_signHere_53_st
  refine sm_gI (k := 19) (by decide) rfl fun v1 => ?_
  refine sm_ite ?_ ?_
  · exact t_X12_signHere_87  x1 x2
  · refine sm_gR (k := 0) (by decide) rfl ?_
    refine sm_aI fun v2 => ?_
    refine sm_gR (k := 0) (by decide) rfl ?_
    refine sm_gI (k := 20) (by decide) rfl fun v3 => ?_
    refine sm_aI fun v4 => ?_
    refine sm_ite ?_ ?_
    · exact hk53 x1 x2 (x3 + (1 : Int32))
    · exact sm_ret
theorem t_X12_signHere_53 {m : Nat} {rf : Nat → Option Nat} : ∀ (n : Nat) (x1 : Int32) (x2 : Int32) (x3 : Int32), Sm m rf (X12_signHere_53  n m x1 x2 x3) (N12_signHere_53  n x1 x2 x3) := by
  intro n
  induction n with
  | zero => intro x1 x2 x3; exact sm_mf
  | succ n ih => intro x1 x2 x3; exact t_X12_signHere_53_st  _ ih x1 x2 x3
theorem t_X12_signHere {m : Nat} {rf : Nat → Option Nat}  : Sm m rf (X12_signHere m) (N12_signHere ) := by
  unfold X12_signHere N12_signHere
  refine sm_kR (i := 10) ?_
  refine sm_wc (t_X12_isSpelled 10) fun v1 => ?_
  refine sm_ite ?_ ?_
  · refine sm_kR (i := 11) ?_
    refine sm_wc (t_X12_isSpelled 11) fun v2 => ?_
    refine sm_ite ?_ ?_
    · refine sm_kR (i := 12) ?_
      refine sm_gR (k := 0) (by decide) rfl ?_
      refine sm_gI (k := 20) (by decide) rfl fun v3 => ?_
      refine sm_aI fun v4 => ?_
      refine sm_nSi fun v5 => ?_
      refine sm_gI (k := 19) (by decide) rfl fun v6 => ?_
      refine sm_gI (k := 20) (by decide) rfl fun v7 => ?_
      refine sm_gI (k := 20) (by decide) rfl fun v8 => ?_
      exact t_X12_signHere_53  LFU v5 (v6 - v7) v8
    · exact sm_ret
  · exact sm_ret
def N12_next_132   : NM Unit :=
  nb (N12_signHere ) fun v1 =>
  nb (npI 22 v1) fun _ =>
  nb (ngI 22) fun v2 =>
  if 0 ≤ v2 then (nb (npI 21 (2 : Int32)) fun _ =>
  nr ()) else (nb (npI 21 (1 : Int32)) fun _ =>
  nr ())
def N12_next_89_st  (k89 : NM Unit)  : NM Unit :=
  nb (ngI 19) fun v1 =>
  nb (ngI 1) fun v2 =>
  if v2 ≤ v1 then ((N12_next_132  )) else (nb (ngI 19) fun v3 =>
  nb (naI 0 v3) fun v4 =>
  nb (N12_isIn v4 (97 : Int32) (122 : Int32)) fun v5 =>
  if v5 = 0 then ((N12_next_132  )) else (nb (ngI 19) fun v6 =>
  nb (npI 19 (v6 + (1 : Int32))) fun _ =>
  (k89 )))
def N12_next_89  : Nat → NM Unit
  | 0 => nf
  | n + 1 => N12_next_89_st  (N12_next_89  n) 
def N12_next_237 (k170 : NM Unit)  : NM Unit :=
  nb (ngI 19) fun v1 =>
  nb (npI 19 (v1 + (1 : Int32))) fun _ =>
  (k170 )
def N12_next_250   : NM Unit :=
  nb (ngI 19) fun v1 =>
  nb (ngI 20) fun v2 =>
  if (v1 - v2) ≤ (3 : Int32) then (nb (npI 21 (3 : Int32)) fun _ =>
  nr ()) else (nb (npI 21 (1 : Int32)) fun _ =>
  nr ())
def N12_next_170_st  (k170 : NM Unit)  : NM Unit :=
  nb (ngI 19) fun v1 =>
  nb (ngI 1) fun v2 =>
  if v2 ≤ v1 then ((N12_next_250  )) else (nb (ngI 19) fun v3 =>
  nb (naI 0 v3) fun v4 =>
  nb (N12_isIn v4 (48 : Int32) (57 : Int32)) fun v5 =>
  if v5 = 0 then ((N12_next_250  )) else (nb (ngI 19) fun v6 =>
  nb (ngI 20) fun v7 =>
  if (3 : Int32) ≤ (v6 - v7) then ((N12_next_237 k170 )) else (nb (ngI 22) fun v8 =>
  nb (ngI 19) fun v9 =>
  nb (naI 0 v9) fun v10 =>
  nb (npI 22 ((((10 : Int32) * v8) + v10) - (48 : Int32))) fun _ =>
  (N12_next_237 k170 ))))
def N12_next_170  : Nat → NM Unit
  | 0 => nf
  | n + 1 => N12_next_170_st  (N12_next_170  n) 
def N12_next_38   : NM Unit :=
  nb (ngI 19) fun v1 =>
  nb (npI 20 v1) fun _ =>
  nb (npI 21 (0 : Int32)) fun _ =>
  nb (npI 22 (0 : Int32)) fun _ =>
  nb (ngI 19) fun v2 =>
  nb (ngI 1) fun v3 =>
  if v2 = v3 then (nr ()) else (nb (ngI 19) fun v4 =>
  nb (naI 0 v4) fun v5 =>
  nb (N12_isIn v5 (97 : Int32) (122 : Int32)) fun v6 =>
  if v6 = 0 then (nb (N12_isIn v5 (48 : Int32) (57 : Int32)) fun v7 =>
  if v7 = 0 then (nb (ngI 19) fun v8 =>
  nb (npI 19 (v8 + (1 : Int32))) fun _ =>
  nb (npI 22 v5) fun _ =>
  if v5 = (40 : Int32) then (nb (npI 21 (4 : Int32)) fun _ =>
  nr ()) else (if v5 = (41 : Int32) then (nb (npI 21 (4 : Int32)) fun _ =>
  nr ()) else (if v5 = (44 : Int32) then (nb (npI 21 (4 : Int32)) fun _ =>
  nr ()) else (if v5 = (45 : Int32) then (nb (npI 21 (4 : Int32)) fun _ =>
  nr ()) else (if v5 = (43 : Int32) then (nb (npI 21 (4 : Int32)) fun _ =>
  nr ()) else (if v5 = (61 : Int32) then (nb (npI 21 (4 : Int32)) fun _ =>
  nr ()) else (nb (npI 21 (1 : Int32)) fun _ =>
  nr ()))))))) else ((N12_next_170  LFU ))) else ((N12_next_89  LFU )))
def N12_next_0_st  (k0 : NM Unit)  : NM Unit :=
  nb (ngI 19) fun v1 =>
  nb (ngI 1) fun v2 =>
  if v2 ≤ v1 then ((N12_next_38  )) else (nb (ngI 19) fun v3 =>
  nb (naI 0 v3) fun v4 =>
  if v4 = (32 : Int32) then (nb (ngI 19) fun v5 =>
  nb (npI 19 (v5 + (1 : Int32))) fun _ =>
  (k0 )) else ((N12_next_38  )))
def N12_next_0  : Nat → NM Unit
  | 0 => nf
  | n + 1 => N12_next_0_st  (N12_next_0  n) 
def N12_next  : NM Unit :=
  (N12_next_0  LFU )
theorem t_X12_next_132 {m : Nat} {rf : Nat → Option Nat}  : Sm m rf (X12_next_132  m) (N12_next_132  ) := by
  unfold X12_next_132 N12_next_132
  refine sm_wc (t_X12_signHere ) fun v1 => ?_
  refine sm_pI (k := 22) (by decide) rfl ?_
  refine sm_gI (k := 22) (by decide) rfl fun v2 => ?_
  refine sm_ite ?_ ?_
  · refine sm_pI (k := 21) (by decide) rfl ?_
    exact sm_ret
  · refine sm_pI (k := 21) (by decide) rfl ?_
    exact sm_ret
theorem t_X12_next_89_st {m : Nat} {rf : Nat → Option Nat} {k89 : NM Unit} (K89 : Nat → MM Unit) (hk89 : Sm m rf (K89 m) (k89 ))  : Sm m rf (X12_next_89_st  K89 m) (N12_next_89_st  k89 ) := by
  unfold X12_next_89_st N12_next_89_st
  refine sm_gI (k := 19) (by decide) rfl fun v1 => ?_
  refine sm_gI (k := 1) (by decide) rfl fun v2 => ?_
  refine sm_ite ?_ ?_
  · exact t_X12_next_132  
  · refine sm_gR (k := 0) (by decide) rfl ?_
    refine sm_gI (k := 19) (by decide) rfl fun v3 => ?_
    refine sm_aI fun v4 => ?_
    refine sm_cal (t_X12_isIn v4 (97 : Int32) (122 : Int32)) fun v5 => ?_
    refine sm_ite ?_ ?_
    · exact t_X12_next_132  
    · refine sm_gI (k := 19) (by decide) rfl fun v6 => ?_
      refine sm_pI (k := 19) (by decide) rfl ?_
      exact hk89 
theorem t_X12_next_89 {m : Nat} {rf : Nat → Option Nat} : ∀ (n : Nat) , Sm m rf (X12_next_89  n m) (N12_next_89  n ) := by
  intro n
  induction n with
  | zero => exact sm_mf
  | succ n ih => exact t_X12_next_89_st  _ ih 
theorem t_X12_next_237 {m : Nat} {rf : Nat → Option Nat} {k170 : NM Unit} (K170 : Nat → MM Unit) (hk170 : Sm m rf (K170 m) (k170 ))  : Sm m rf (X12_next_237 K170 m) (N12_next_237 k170 ) := by
  unfold X12_next_237 N12_next_237
  refine sm_gI (k := 19) (by decide) rfl fun v1 => ?_
  refine sm_pI (k := 19) (by decide) rfl ?_
  exact hk170 
theorem t_X12_next_250 {m : Nat} {rf : Nat → Option Nat}  : Sm m rf (X12_next_250  m) (N12_next_250  ) := by
  unfold X12_next_250 N12_next_250
  refine sm_gI (k := 19) (by decide) rfl fun v1 => ?_
  refine sm_gI (k := 20) (by decide) rfl fun v2 => ?_
  refine sm_ite ?_ ?_
  · refine sm_pI (k := 21) (by decide) rfl ?_
    exact sm_ret
  · refine sm_pI (k := 21) (by decide) rfl ?_
    exact sm_ret
theorem t_X12_next_170_st {m : Nat} {rf : Nat → Option Nat} {k170 : NM Unit} (K170 : Nat → MM Unit) (hk170 : Sm m rf (K170 m) (k170 ))  : Sm m rf (X12_next_170_st  K170 m) (N12_next_170_st  k170 ) := by
  unfold X12_next_170_st N12_next_170_st
  refine sm_gI (k := 19) (by decide) rfl fun v1 => ?_
  refine sm_gI (k := 1) (by decide) rfl fun v2 => ?_
  refine sm_ite ?_ ?_
  · exact t_X12_next_250  
  · refine sm_gR (k := 0) (by decide) rfl ?_
    refine sm_gI (k := 19) (by decide) rfl fun v3 => ?_
    refine sm_aI fun v4 => ?_
    refine sm_cal (t_X12_isIn v4 (48 : Int32) (57 : Int32)) fun v5 => ?_
    refine sm_ite ?_ ?_
    · exact t_X12_next_250  
    · refine sm_gI (k := 19) (by decide) rfl fun v6 => ?_
      refine sm_gI (k := 20) (by decide) rfl fun v7 => ?_
      refine sm_ite ?_ ?_
      · exact t_X12_next_237 _ hk170 
      · refine sm_gI (k := 22) (by decide) rfl fun v8 => ?_
        refine sm_gR (k := 0) (by decide) rfl ?_
        refine sm_gI (k := 19) (by decide) rfl fun v9 => ?_
        refine sm_aI fun v10 => ?_
        refine sm_pI (k := 22) (by decide) rfl ?_
        exact t_X12_next_237 _ hk170 
theorem t_X12_next_170 {m : Nat} {rf : Nat → Option Nat} : ∀ (n : Nat) , Sm m rf (X12_next_170  n m) (N12_next_170  n ) := by
  intro n
  induction n with
  | zero => exact sm_mf
  | succ n ih => exact t_X12_next_170_st  _ ih 
theorem t_X12_next_38 {m : Nat} {rf : Nat → Option Nat}  : Sm m rf (X12_next_38  m) (N12_next_38  ) := by
  unfold X12_next_38 N12_next_38
  refine sm_gI (k := 19) (by decide) rfl fun v1 => ?_
  refine sm_pI (k := 20) (by decide) rfl ?_
  refine sm_pI (k := 21) (by decide) rfl ?_
  refine sm_pI (k := 22) (by decide) rfl ?_
  refine sm_gI (k := 19) (by decide) rfl fun v2 => ?_
  refine sm_gI (k := 1) (by decide) rfl fun v3 => ?_
  refine sm_ite ?_ ?_
  · exact sm_ret
  · refine sm_gR (k := 0) (by decide) rfl ?_
    refine sm_gI (k := 19) (by decide) rfl fun v4 => ?_
    refine sm_aI fun v5 => ?_
    refine sm_cal (t_X12_isIn v5 (97 : Int32) (122 : Int32)) fun v6 => ?_
    refine sm_ite ?_ ?_
    · refine sm_cal (t_X12_isIn v5 (48 : Int32) (57 : Int32)) fun v7 => ?_
      refine sm_ite ?_ ?_
      · refine sm_gI (k := 19) (by decide) rfl fun v8 => ?_
        refine sm_pI (k := 19) (by decide) rfl ?_
        refine sm_pI (k := 22) (by decide) rfl ?_
        refine sm_ite ?_ ?_
        · refine sm_pI (k := 21) (by decide) rfl ?_
          exact sm_ret
        · refine sm_ite ?_ ?_
          · refine sm_pI (k := 21) (by decide) rfl ?_
            exact sm_ret
          · refine sm_ite ?_ ?_
            · refine sm_pI (k := 21) (by decide) rfl ?_
              exact sm_ret
            · refine sm_ite ?_ ?_
              · refine sm_pI (k := 21) (by decide) rfl ?_
                exact sm_ret
              · refine sm_ite ?_ ?_
                · refine sm_pI (k := 21) (by decide) rfl ?_
                  exact sm_ret
                · refine sm_ite ?_ ?_
                  · refine sm_pI (k := 21) (by decide) rfl ?_
                    exact sm_ret
                  · refine sm_pI (k := 21) (by decide) rfl ?_
                    exact sm_ret
      · exact t_X12_next_170  LFU 
    · exact t_X12_next_89  LFU 
theorem t_X12_next_0_st {m : Nat} {rf : Nat → Option Nat} {k0 : NM Unit} (K0 : Nat → MM Unit) (hk0 : Sm m rf (K0 m) (k0 ))  : Sm m rf (X12_next_0_st  K0 m) (N12_next_0_st  k0 ) := by
  unfold X12_next_0_st N12_next_0_st
  refine sm_gI (k := 19) (by decide) rfl fun v1 => ?_
  refine sm_gI (k := 1) (by decide) rfl fun v2 => ?_
  refine sm_ite ?_ ?_
  · exact t_X12_next_38  
  · refine sm_gR (k := 0) (by decide) rfl ?_
    refine sm_gI (k := 19) (by decide) rfl fun v3 => ?_
    refine sm_aI fun v4 => ?_
    refine sm_ite ?_ ?_
    · refine sm_gI (k := 19) (by decide) rfl fun v5 => ?_
      refine sm_pI (k := 19) (by decide) rfl ?_
      exact hk0 
    · exact t_X12_next_38  
theorem t_X12_next_0 {m : Nat} {rf : Nat → Option Nat} : ∀ (n : Nat) , Sm m rf (X12_next_0  n m) (N12_next_0  n ) := by
  intro n
  induction n with
  | zero => exact sm_mf
  | succ n ih => exact t_X12_next_0_st  _ ih 
theorem t_X12_next {m : Nat} {rf : Nat → Option Nat}  : Sm m rf (X12_next m) (N12_next ) := by
  unfold X12_next N12_next
  exact t_X12_next_0  LFU 
def N12_isMark (a1 : Int32) : NM Int32 :=
  nb (ngI 21) fun v1 =>
  if v1 = (4 : Int32) then (nb (ngI 22) fun v2 =>
  if v2 = a1 then (nr (1 : Int32)) else (nr (0 : Int32))) else (nr (0 : Int32))
theorem t_X12_isMark {m : Nat} {rf : Nat → Option Nat} (a1 : Int32) : Sm m rf (X12_isMark m a1) (N12_isMark a1) := by
  unfold X12_isMark N12_isMark
  refine sm_gI (k := 21) (by decide) rfl fun v1 => ?_
  refine sm_ite ?_ ?_
  · refine sm_gI (k := 22) (by decide) rfl fun v2 => ?_
    refine sm_ite ?_ ?_
    · exact sm_ret
    · exact sm_ret
  · exact sm_ret
def N12_take_21  (y0 : Int32) : NM Int32 :=
  nb (npZ 23 y0) fun _ =>
  nb (ngI 23) fun v1 =>
  if v1 = 0 then (nr (0 : Int32)) else (nb (ngI 22) fun v2 =>
  nb (N12_next ) fun _ =>
  nr v2)
def N12_take_20   : NM Int32 :=
  (N12_take_21  (0 : Int32))
def N12_take (a1 : Int32) : NM Int32 :=
  nb (ngI 23) fun v1 =>
  if v1 = 0 then ((N12_take_20  )) else (nb (ngI 21) fun v2 =>
  if v2 = a1 then ((N12_take_21  (1 : Int32))) else ((N12_take_20  )))
theorem t_X12_take_21 {m : Nat} {rf : Nat → Option Nat} (y0 : Int32) : Sm m rf (X12_take_21  m y0) (N12_take_21  y0) := by
  unfold X12_take_21 N12_take_21
  refine sm_pZ (k := 23) (by decide) rfl ?_
  refine sm_gI (k := 23) (by decide) rfl fun v1 => ?_
  refine sm_ite ?_ ?_
  · exact sm_ret
  · refine sm_gI (k := 22) (by decide) rfl fun v2 => ?_
    refine sm_wc (t_X12_next ) fun _ => ?_
    exact sm_ret
theorem t_X12_take_20 {m : Nat} {rf : Nat → Option Nat}  : Sm m rf (X12_take_20  m) (N12_take_20  ) := by
  unfold X12_take_20 N12_take_20
  exact t_X12_take_21  (0 : Int32)
theorem t_X12_take {m : Nat} {rf : Nat → Option Nat} (a1 : Int32) : Sm m rf (X12_take m a1) (N12_take a1) := by
  unfold X12_take N12_take
  refine sm_gI (k := 23) (by decide) rfl fun v1 => ?_
  refine sm_ite ?_ ?_
  · exact t_X12_take_20  
  · refine sm_gI (k := 21) (by decide) rfl fun v2 => ?_
    refine sm_ite ?_ ?_
    · exact t_X12_take_21  (1 : Int32)
    · exact t_X12_take_20  
def N12_must_21  (y0 : Int32) : NM Unit :=
  nb (npZ 23 y0) fun _ =>
  nb (ngI 23) fun v1 =>
  if v1 = 0 then (nr ()) else (nb (N12_next ) fun _ =>
  nr ())
def N12_must_20   : NM Unit :=
  (N12_must_21  (0 : Int32))
def N12_must (a1 : Int32) : NM Unit :=
  nb (ngI 23) fun v1 =>
  if v1 = 0 then ((N12_must_20  )) else (nb (N12_isMark a1) fun v2 =>
  if v2 = 0 then ((N12_must_20  )) else ((N12_must_21  (1 : Int32))))
theorem t_X12_must_21 {m : Nat} {rf : Nat → Option Nat} (y0 : Int32) : Sm m rf (X12_must_21  m y0) (N12_must_21  y0) := by
  unfold X12_must_21 N12_must_21
  refine sm_pZ (k := 23) (by decide) rfl ?_
  refine sm_gI (k := 23) (by decide) rfl fun v1 => ?_
  refine sm_ite ?_ ?_
  · exact sm_ret
  · refine sm_wc (t_X12_next ) fun _ => ?_
    exact sm_ret
theorem t_X12_must_20 {m : Nat} {rf : Nat → Option Nat}  : Sm m rf (X12_must_20  m) (N12_must_20  ) := by
  unfold X12_must_20 N12_must_20
  exact t_X12_must_21  (0 : Int32)
theorem t_X12_must {m : Nat} {rf : Nat → Option Nat} (a1 : Int32) : Sm m rf (X12_must m a1) (N12_must a1) := by
  unfold X12_must N12_must
  refine sm_gI (k := 23) (by decide) rfl fun v1 => ?_
  refine sm_ite ?_ ?_
  · exact t_X12_must_20  
  · refine sm_wc (t_X12_isMark a1) fun v2 => ?_
    refine sm_ite ?_ ?_
    · exact t_X12_must_20  
    · exact t_X12_must_21  (1 : Int32)
def N12_goes_20  (y0 : Int32) : NM Int32 :=
  if y0 = 0 then (nb (nnz y0) fun v1 =>
  nr v1) else (nb (N12_next ) fun _ =>
  nb (nnz y0) fun v2 =>
  nr v2)
def N12_goes_19   : NM Int32 :=
  (N12_goes_20  (0 : Int32))
def N12_goes (a1 : Int32) : NM Int32 :=
  nb (ngI 23) fun v1 =>
  if v1 = 0 then ((N12_goes_19  )) else (nb (N12_isMark a1) fun v2 =>
  if v2 = 0 then ((N12_goes_19  )) else ((N12_goes_20  (1 : Int32))))
theorem t_X12_goes_20 {m : Nat} {rf : Nat → Option Nat} (y0 : Int32) : Sm m rf (X12_goes_20  m y0) (N12_goes_20  y0) := by
  unfold X12_goes_20 N12_goes_20
  refine sm_ite ?_ ?_
  · refine sm_nz fun v1 => ?_
    exact sm_ret
  · refine sm_wc (t_X12_next ) fun _ => ?_
    refine sm_nz fun v2 => ?_
    exact sm_ret
theorem t_X12_goes_19 {m : Nat} {rf : Nat → Option Nat}  : Sm m rf (X12_goes_19  m) (N12_goes_19  ) := by
  unfold X12_goes_19 N12_goes_19
  exact t_X12_goes_20  (0 : Int32)
theorem t_X12_goes {m : Nat} {rf : Nat → Option Nat} (a1 : Int32) : Sm m rf (X12_goes m a1) (N12_goes a1) := by
  unfold X12_goes N12_goes
  refine sm_gI (k := 23) (by decide) rfl fun v1 => ?_
  refine sm_ite ?_ ?_
  · exact t_X12_goes_19  
  · refine sm_wc (t_X12_isMark a1) fun v2 => ?_
    refine sm_ite ?_ ?_
    · exact t_X12_goes_19  
    · exact t_X12_goes_20  (1 : Int32)
def N12_begins  : NM Unit :=
  nb (npI 19 (0 : Int32)) fun _ =>
  nb (npZ 23 (1 : Int32)) fun _ =>
  nb (npI 4 (0 : Int32)) fun _ =>
  nb (N12_next ) fun _ =>
  nr ()
theorem t_X12_begins {m : Nat} {rf : Nat → Option Nat}  : Sm m rf (X12_begins m) (N12_begins ) := by
  unfold X12_begins N12_begins
  refine sm_pI (k := 19) (by decide) rfl ?_
  refine sm_pZ (k := 23) (by decide) rfl ?_
  refine sm_pI (k := 4) (by decide) rfl ?_
  refine sm_wc (t_X12_next ) fun _ => ?_
  exact sm_ret
def N12_ends_20  (y0 : Int32) : NM Int32 :=
  nb (npZ 23 y0) fun _ =>
  nb (ngI 23) fun v1 =>
  if v1 = 0 then (nb (ngI 20) fun v2 =>
  nb (npI 3 v2) fun _ =>
  nb (npI 1 (0 : Int32)) fun _ =>
  nb (ngI 23) fun v3 =>
  nb (nnz v3) fun v4 =>
  nr v4) else (nb (npI 3 (-9 : Int32)) fun _ =>
  nb (npI 1 (0 : Int32)) fun _ =>
  nb (ngI 23) fun v5 =>
  nb (nnz v5) fun v6 =>
  nr v6)
def N12_ends_19   : NM Int32 :=
  (N12_ends_20  (0 : Int32))
def N12_ends  : NM Int32 :=
  nb (ngI 23) fun v1 =>
  if v1 = 0 then ((N12_ends_19  )) else (nb (ngI 21) fun v2 =>
  if v2 = 0 then ((N12_ends_20  (1 : Int32))) else ((N12_ends_19  )))
theorem t_X12_ends_20 {m : Nat} {rf : Nat → Option Nat} (y0 : Int32) : Sm m rf (X12_ends_20  m y0) (N12_ends_20  y0) := by
  unfold X12_ends_20 N12_ends_20
  refine sm_pZ (k := 23) (by decide) rfl ?_
  refine sm_gI (k := 23) (by decide) rfl fun v1 => ?_
  refine sm_ite ?_ ?_
  · refine sm_gI (k := 20) (by decide) rfl fun v2 => ?_
    refine sm_pI (k := 3) (by decide) rfl ?_
    refine sm_pI (k := 1) (by decide) rfl ?_
    refine sm_gI (k := 23) (by decide) rfl fun v3 => ?_
    refine sm_nz fun v4 => ?_
    exact sm_ret
  · refine sm_pI (k := 3) (by decide) rfl ?_
    refine sm_pI (k := 1) (by decide) rfl ?_
    refine sm_gI (k := 23) (by decide) rfl fun v5 => ?_
    refine sm_nz fun v6 => ?_
    exact sm_ret
theorem t_X12_ends_19 {m : Nat} {rf : Nat → Option Nat}  : Sm m rf (X12_ends_19  m) (N12_ends_19  ) := by
  unfold X12_ends_19 N12_ends_19
  exact t_X12_ends_20  (0 : Int32)
theorem t_X12_ends {m : Nat} {rf : Nat → Option Nat}  : Sm m rf (X12_ends m) (N12_ends ) := by
  unfold X12_ends N12_ends
  refine sm_gI (k := 23) (by decide) rfl fun v1 => ?_
  refine sm_ite ?_ ?_
  · exact t_X12_ends_19  
  · refine sm_gI (k := 21) (by decide) rfl fun v2 => ?_
    refine sm_ite ?_ ?_
    · exact t_X12_ends_20  (1 : Int32)
    · exact t_X12_ends_19  
def N12_readChange_40  (x1 : Int32) (y0 : Int32) (y1 : Int32) (y2 : Nat) : NM Unit :=
  nb (nsI y2 y1 y0) fun _ =>
  nb (N12_take (2 : Int32)) fun v1 =>
  nb (nsI 33 x1 v1) fun _ =>
  nb (N12_take (3 : Int32)) fun v2 =>
  nb (nsI 34 x1 v2) fun _ =>
  nb (nsI 35 x1 (0 : Int32)) fun _ =>
  nb (naI 32 x1) fun v3 =>
  if v3 = (43 : Int32) then (nb (N12_must (43 : Int32)) fun _ =>
  nb (N12_take (3 : Int32)) fun v4 =>
  nb (nsI 35 x1 v4) fun _ =>
  nb (ngI 25) fun v5 =>
  nb (npI 25 (v5 + (1 : Int32))) fun _ =>
  nr ()) else (nb (ngI 25) fun v6 =>
  nb (npI 25 (v6 + (1 : Int32))) fun _ =>
  nr ())
def N12_readChange  : NM Unit :=
  nb (ngI 25) fun v1 =>
  nb (N12_goes (45 : Int32)) fun v2 =>
  if v2 = 0 then (nb (N12_goes (61 : Int32)) fun v3 =>
  if v3 = 0 then ((N12_readChange_40  v1 (43 : Int32) v1 32)) else ((N12_readChange_40  v1 (61 : Int32) v1 32))) else ((N12_readChange_40  v1 (45 : Int32) v1 32))
theorem t_X12_readChange_40 {m : Nat} {rf : Nat → Option Nat} (x1 : Int32) (y0 : Int32) (y1 : Int32) (y2 : Nat) : Sm m rf (X12_readChange_40  m x1 y0 y1 (some (m + oM y2))) (N12_readChange_40  x1 y0 y1 y2) := by
  unfold X12_readChange_40 N12_readChange_40
  refine sm_sI ?_
  refine sm_gR (k := 33) (by decide) rfl ?_
  refine sm_wc (t_X12_take (2 : Int32)) fun v1 => ?_
  refine sm_sI ?_
  refine sm_gR (k := 34) (by decide) rfl ?_
  refine sm_wc (t_X12_take (3 : Int32)) fun v2 => ?_
  refine sm_sI ?_
  refine sm_gR (k := 35) (by decide) rfl ?_
  refine sm_sI ?_
  refine sm_gR (k := 32) (by decide) rfl ?_
  refine sm_aI fun v3 => ?_
  refine sm_ite ?_ ?_
  · refine sm_wc (t_X12_must (43 : Int32)) fun _ => ?_
    refine sm_gR (k := 35) (by decide) rfl ?_
    refine sm_wc (t_X12_take (3 : Int32)) fun v4 => ?_
    refine sm_sI ?_
    refine sm_gI (k := 25) (by decide) rfl fun v5 => ?_
    refine sm_pI (k := 25) (by decide) rfl ?_
    exact sm_ret
  · refine sm_gI (k := 25) (by decide) rfl fun v6 => ?_
    refine sm_pI (k := 25) (by decide) rfl ?_
    exact sm_ret
theorem t_X12_readChange {m : Nat} {rf : Nat → Option Nat}  : Sm m rf (X12_readChange m) (N12_readChange ) := by
  unfold X12_readChange N12_readChange
  refine sm_gI (k := 25) (by decide) rfl fun v1 => ?_
  refine sm_gR (k := 32) (by decide) rfl ?_
  refine sm_wc (t_X12_goes (45 : Int32)) fun v2 => ?_
  refine sm_ite ?_ ?_
  · refine sm_wc (t_X12_goes (61 : Int32)) fun v3 => ?_
    refine sm_ite ?_ ?_
    · exact t_X12_readChange_40  v1 (43 : Int32) v1 32
    · exact t_X12_readChange_40  v1 (61 : Int32) v1 32
  · exact t_X12_readChange_40  v1 (45 : Int32) v1 32
def N12_readChanges_4_st  (k4 : NM Unit)  : NM Unit :=
  nb (N12_goes (44 : Int32)) fun v1 =>
  if v1 = 0 then (nr ()) else (nb (N12_readChange ) fun _ =>
  (k4 ))
def N12_readChanges_4  : Nat → NM Unit
  | 0 => nf
  | n + 1 => N12_readChanges_4_st  (N12_readChanges_4  n) 
def N12_readChanges  : NM Unit :=
  nb (N12_readChange ) fun _ =>
  (N12_readChanges_4  LFU )
theorem t_X12_readChanges_4_st {m : Nat} {rf : Nat → Option Nat} {k4 : NM Unit} (K4 : Nat → MM Unit) (hk4 : Sm m rf (K4 m) (k4 ))  : Sm m rf (X12_readChanges_4_st  K4 m) (N12_readChanges_4_st  k4 ) := by
  unfold X12_readChanges_4_st N12_readChanges_4_st
  refine sm_wc (t_X12_goes (44 : Int32)) fun v1 => ?_
  refine sm_ite ?_ ?_
  · exact sm_ret
  · refine sm_wc (t_X12_readChange ) fun _ => ?_
    exact hk4 
theorem t_X12_readChanges_4 {m : Nat} {rf : Nat → Option Nat} : ∀ (n : Nat) , Sm m rf (X12_readChanges_4  n m) (N12_readChanges_4  n ) := by
  intro n
  induction n with
  | zero => exact sm_mf
  | succ n ih => exact t_X12_readChanges_4_st  _ ih 
theorem t_X12_readChanges {m : Nat} {rf : Nat → Option Nat}  : Sm m rf (X12_readChanges m) (N12_readChanges ) := by
  unfold X12_readChanges N12_readChanges
  refine sm_wc (t_X12_readChange ) fun _ => ?_
  exact t_X12_readChanges_4  LFU 
def N12_readGroup_125   : NM Unit :=
  nb (ngI 24) fun v1 =>
  nb (npI 24 (v1 + (1 : Int32))) fun _ =>
  nb (ngI 24) fun v2 =>
  nb (ngI 25) fun v3 =>
  nb (nsI 31 v2 v3) fun _ =>
  nr ()
def N12_readGroup_105  (y0 : Int32) (y1 : Int32) (y2 : Nat) : NM Unit :=
  nb (nsI y2 y1 y0) fun _ =>
  nb (N12_goes (40 : Int32)) fun v1 =>
  if v1 = 0 then ((N12_readGroup_125  )) else (nb (N12_readChanges ) fun _ =>
  nb (N12_must (41 : Int32)) fun _ =>
  (N12_readGroup_125  ))
def N12_readGroup_99  (x1 : Int32) (y0 : Int32) (y1 : Nat) : NM Unit :=
  nb (naI 29 x1) fun v1 =>
  (N12_readGroup_105  v1 y0 y1)
def N12_readGroup_56  (x1 : Int32) (y0 : Int32) (y1 : Int32) (y2 : Nat) : NM Unit :=
  nb (nsI y2 y1 y0) fun _ =>
  nb (N12_take (3 : Int32)) fun v1 =>
  nb (nsI 29 x1 v1) fun _ =>
  nb (naZ 28 x1) fun v2 =>
  if v2 = 0 then ((N12_readGroup_99  x1 x1 30)) else (nb (N12_goes (44 : Int32)) fun v3 =>
  if v3 = 0 then ((N12_readGroup_99  x1 x1 30)) else (nb (N12_take (3 : Int32)) fun v4 =>
  (N12_readGroup_105  v4 x1 30)))
def N12_readGroup  : NM Unit :=
  nb (ngI 24) fun v1 =>
  nb (N12_take (2 : Int32)) fun v2 =>
  nb (nsI 26 v1 v2) fun _ =>
  nb (N12_goes (45 : Int32)) fun v3 =>
  nb (nsZ 28 v1 v3) fun _ =>
  nb (naZ 28 v1) fun v4 =>
  if v4 = 0 then (nb (naI 26 v1) fun v5 =>
  (N12_readGroup_56  v1 v5 v1 27)) else (nb (N12_take (2 : Int32)) fun v6 =>
  (N12_readGroup_56  v1 v6 v1 27))
theorem t_X12_readGroup_125 {m : Nat} {rf : Nat → Option Nat}  : Sm m rf (X12_readGroup_125  m) (N12_readGroup_125  ) := by
  unfold X12_readGroup_125 N12_readGroup_125
  refine sm_gI (k := 24) (by decide) rfl fun v1 => ?_
  refine sm_pI (k := 24) (by decide) rfl ?_
  refine sm_gR (k := 31) (by decide) rfl ?_
  refine sm_gI (k := 24) (by decide) rfl fun v2 => ?_
  refine sm_gI (k := 25) (by decide) rfl fun v3 => ?_
  refine sm_sI ?_
  exact sm_ret
theorem t_X12_readGroup_105 {m : Nat} {rf : Nat → Option Nat} (y0 : Int32) (y1 : Int32) (y2 : Nat) : Sm m rf (X12_readGroup_105  m y0 y1 (some (m + oM y2))) (N12_readGroup_105  y0 y1 y2) := by
  unfold X12_readGroup_105 N12_readGroup_105
  refine sm_sI ?_
  refine sm_wc (t_X12_goes (40 : Int32)) fun v1 => ?_
  refine sm_ite ?_ ?_
  · exact t_X12_readGroup_125  
  · refine sm_wc (t_X12_readChanges ) fun _ => ?_
    refine sm_wc (t_X12_must (41 : Int32)) fun _ => ?_
    exact t_X12_readGroup_125  
theorem t_X12_readGroup_99 {m : Nat} {rf : Nat → Option Nat} (x1 : Int32) (y0 : Int32) (y1 : Nat) : Sm m rf (X12_readGroup_99  m x1 y0 (some (m + oM y1))) (N12_readGroup_99  x1 y0 y1) := by
  unfold X12_readGroup_99 N12_readGroup_99
  refine sm_gR (k := 29) (by decide) rfl ?_
  refine sm_aI fun v1 => ?_
  exact t_X12_readGroup_105  v1 y0 y1
theorem t_X12_readGroup_56 {m : Nat} {rf : Nat → Option Nat} (x1 : Int32) (y0 : Int32) (y1 : Int32) (y2 : Nat) : Sm m rf (X12_readGroup_56  m x1 y0 y1 (some (m + oM y2))) (N12_readGroup_56  x1 y0 y1 y2) := by
  unfold X12_readGroup_56 N12_readGroup_56
  refine sm_sI ?_
  refine sm_gR (k := 29) (by decide) rfl ?_
  refine sm_wc (t_X12_take (3 : Int32)) fun v1 => ?_
  refine sm_sI ?_
  refine sm_gR (k := 30) (by decide) rfl ?_
  refine sm_gR (k := 28) (by decide) rfl ?_
  refine sm_aB fun v2 => ?_
  refine sm_ite ?_ ?_
  · exact t_X12_readGroup_99  x1 x1 30
  · refine sm_wc (t_X12_goes (44 : Int32)) fun v3 => ?_
    refine sm_ite ?_ ?_
    · exact t_X12_readGroup_99  x1 x1 30
    · refine sm_wc (t_X12_take (3 : Int32)) fun v4 => ?_
      exact t_X12_readGroup_105  v4 x1 30
theorem t_X12_readGroup {m : Nat} {rf : Nat → Option Nat}  : Sm m rf (X12_readGroup m) (N12_readGroup ) := by
  unfold X12_readGroup N12_readGroup
  refine sm_gI (k := 24) (by decide) rfl fun v1 => ?_
  refine sm_gR (k := 26) (by decide) rfl ?_
  refine sm_wc (t_X12_take (2 : Int32)) fun v2 => ?_
  refine sm_sI ?_
  refine sm_gR (k := 28) (by decide) rfl ?_
  refine sm_wc (t_X12_goes (45 : Int32)) fun v3 => ?_
  refine sm_sB ?_
  refine sm_gR (k := 27) (by decide) rfl ?_
  refine sm_gR (k := 28) (by decide) rfl ?_
  refine sm_aB fun v4 => ?_
  refine sm_ite ?_ ?_
  · refine sm_gR (k := 26) (by decide) rfl ?_
    refine sm_aI fun v5 => ?_
    exact t_X12_readGroup_56  v1 v5 v1 27
  · refine sm_wc (t_X12_take (2 : Int32)) fun v6 => ?_
    exact t_X12_readGroup_56  v1 v6 v1 27
def N12_isSize (a0 : Int32) : NM Int32 :=
  if a0 = (1 : Int32) then (nr (1 : Int32)) else (nb (nrI a0 (2 : Int32)) fun v1 =>
  if v1 = 0 then (nb (N12_isIn a0 (2 : Int32) (12 : Int32)) fun v2 =>
  if v2 = 0 then (nr (0 : Int32)) else (nr (1 : Int32))) else (nr (0 : Int32)))
theorem t_X12_isSize {m : Nat} {rf : Nat → Option Nat} (a0 : Int32) : Sm m rf (X12_isSize a0) (N12_isSize a0) := by
  unfold X12_isSize N12_isSize
  refine sm_ite ?_ ?_
  · exact sm_ret
  · refine sm_rI fun v1 => ?_
    refine sm_ite ?_ ?_
    · refine sm_cal (t_X12_isIn a0 (2 : Int32) (12 : Int32)) fun v2 => ?_
      refine sm_ite ?_ ?_
      · exact sm_ret
      · exact sm_ret
    · exact sm_ret
def N12_isTwice_101 (k5 : Int32 → Int32 → Int32 → Int32 → NM Int32) (k14 : Int32 → Int32 → Int32 → Int32 → Int32 → NM Int32) (x1 : Int32) (x2 : Int32) (x4 : Int32) (x5 : Int32) (y0 : Int32) : NM Int32 :=
  (k14 x1 x2 y0 x4 (x5 + (1 : Int32)))
def N12_isTwice_96 (k5 : Int32 → Int32 → Int32 → Int32 → NM Int32) (k14 : Int32 → Int32 → Int32 → Int32 → Int32 → NM Int32) (x1 : Int32) (x2 : Int32) (x4 : Int32) (x5 : Int32) : NM Int32 :=
  (N12_isTwice_101 k5 k14 x1 x2 x4 x5 (1 : Int32))
def N12_isTwice_100 (k5 : Int32 → Int32 → Int32 → Int32 → NM Int32) (k14 : Int32 → Int32 → Int32 → Int32 → Int32 → NM Int32) (x1 : Int32) (x2 : Int32) (x4 : Int32) (x5 : Int32) : NM Int32 :=
  (N12_isTwice_101 k5 k14 x1 x2 x4 x5 (0 : Int32))
def N12_isTwice_93 (k5 : Int32 → Int32 → Int32 → Int32 → NM Int32) (k14 : Int32 → Int32 → Int32 → Int32 → Int32 → NM Int32) (x1 : Int32) (x2 : Int32) (x4 : Int32) (x5 : Int32) (y0 : Int32) (y1 : Int32) : NM Int32 :=
  if y1 = y0 then ((N12_isTwice_96 k5 k14 x1 x2 x4 x5)) else ((N12_isTwice_100 k5 k14 x1 x2 x4 x5))
def N12_isTwice_76 (k5 : Int32 → Int32 → Int32 → Int32 → NM Int32) (k14 : Int32 → Int32 → Int32 → Int32 → Int32 → NM Int32) (x1 : Int32) (x2 : Int32) (x4 : Int32) (x5 : Int32) (y0 : Int32) : NM Int32 :=
  nb (naI 32 x5) fun v1 =>
  if v1 = (43 : Int32) then ((N12_isTwice_93 k5 k14 x1 x2 x4 x5 (1 : Int32) y0)) else ((N12_isTwice_93 k5 k14 x1 x2 x4 x5 (0 : Int32) y0))
def N12_isTwice_108 (k5 : Int32 → Int32 → Int32 → Int32 → NM Int32) (x1 : Int32) (x2 : Int32) (x3 : Int32) (x4 : Int32) : NM Int32 :=
  (k5 x1 x2 x3 (x4 + (1 : Int32)))
def N12_isTwice_14_st (k5 : Int32 → Int32 → Int32 → Int32 → NM Int32) (k14 : Int32 → Int32 → Int32 → Int32 → Int32 → NM Int32) (x1 : Int32) (x2 : Int32) (x3 : Int32) (x4 : Int32) (x5 : Int32) : NM Int32 :=
  if x4 ≤ x5 then ((N12_isTwice_108 k5 x1 x2 x3 x4)) else (if x3 = 0 then (nb (naI 33 x4) fun v1 =>
  nb (naI 33 x5) fun v2 =>
  if v1 = v2 then (nb (naI 34 x4) fun v3 =>
  nb (naI 34 x5) fun v4 =>
  if v3 = v4 then (nb (naI 32 x4) fun v5 =>
  if v5 = (43 : Int32) then ((N12_isTwice_76 k5 k14 x1 x2 x4 x5 (1 : Int32))) else ((N12_isTwice_76 k5 k14 x1 x2 x4 x5 (0 : Int32)))) else ((N12_isTwice_100 k5 k14 x1 x2 x4 x5))) else ((N12_isTwice_100 k5 k14 x1 x2 x4 x5))) else ((N12_isTwice_96 k5 k14 x1 x2 x4 x5)))
def N12_isTwice_14 (k5 : Int32 → Int32 → Int32 → Int32 → NM Int32) : Nat → Int32 → Int32 → Int32 → Int32 → Int32 → NM Int32
  | 0 => fun _ _ _ _ _ => nf
  | n + 1 => fun x1 x2 x3 x4 x5 => N12_isTwice_14_st k5 (N12_isTwice_14 k5 n) x1 x2 x3 x4 x5
def N12_isTwice_5_st  (k5 : Int32 → Int32 → Int32 → Int32 → NM Int32) (x1 : Int32) (x2 : Int32) (x3 : Int32) (x4 : Int32) : NM Int32 :=
  if x2 ≤ x4 then (nb (nnz x3) fun v1 =>
  nr v1) else ((N12_isTwice_14 k5 LFU x1 x2 x3 x4 x1))
def N12_isTwice_5  : Nat → Int32 → Int32 → Int32 → Int32 → NM Int32
  | 0 => fun _ _ _ _ => nf
  | n + 1 => fun x1 x2 x3 x4 => N12_isTwice_5_st  (N12_isTwice_5  n) x1 x2 x3 x4
def N12_isTwice (a1 : Int32) (a2 : Int32) : NM Int32 :=
  (N12_isTwice_5  LFU a1 a2 (0 : Int32) a1)
theorem t_X12_isTwice_101 {m : Nat} {rf : Nat → Option Nat} {k5 : Int32 → Int32 → Int32 → Int32 → NM Int32} (K5 : Nat → Int32 → Int32 → Int32 → Int32 → MM Int32) (hk5 : ∀ (x1 : Int32) (x2 : Int32) (x3 : Int32) (x4 : Int32), Sm m rf (K5 m x1 x2 x3 x4) (k5 x1 x2 x3 x4)) {k14 : Int32 → Int32 → Int32 → Int32 → Int32 → NM Int32} (K14 : Nat → Int32 → Int32 → Int32 → Int32 → Int32 → MM Int32) (hk14 : ∀ (x1 : Int32) (x2 : Int32) (x3 : Int32) (x4 : Int32) (x5 : Int32), Sm m rf (K14 m x1 x2 x3 x4 x5) (k14 x1 x2 x3 x4 x5)) (x1 : Int32) (x2 : Int32) (x4 : Int32) (x5 : Int32) (y0 : Int32) : Sm m rf (X12_isTwice_101 K5 K14 m x1 x2 x4 x5 y0) (N12_isTwice_101 k5 k14 x1 x2 x4 x5 y0) := by
  unfold X12_isTwice_101 N12_isTwice_101
  exact hk14 x1 x2 y0 x4 (x5 + (1 : Int32))
theorem t_X12_isTwice_96 {m : Nat} {rf : Nat → Option Nat} {k5 : Int32 → Int32 → Int32 → Int32 → NM Int32} (K5 : Nat → Int32 → Int32 → Int32 → Int32 → MM Int32) (hk5 : ∀ (x1 : Int32) (x2 : Int32) (x3 : Int32) (x4 : Int32), Sm m rf (K5 m x1 x2 x3 x4) (k5 x1 x2 x3 x4)) {k14 : Int32 → Int32 → Int32 → Int32 → Int32 → NM Int32} (K14 : Nat → Int32 → Int32 → Int32 → Int32 → Int32 → MM Int32) (hk14 : ∀ (x1 : Int32) (x2 : Int32) (x3 : Int32) (x4 : Int32) (x5 : Int32), Sm m rf (K14 m x1 x2 x3 x4 x5) (k14 x1 x2 x3 x4 x5)) (x1 : Int32) (x2 : Int32) (x4 : Int32) (x5 : Int32) : Sm m rf (X12_isTwice_96 K5 K14 m x1 x2 x4 x5) (N12_isTwice_96 k5 k14 x1 x2 x4 x5) := by
  unfold X12_isTwice_96 N12_isTwice_96
  exact t_X12_isTwice_101 _ hk5 _ hk14 x1 x2 x4 x5 (1 : Int32)
theorem t_X12_isTwice_100 {m : Nat} {rf : Nat → Option Nat} {k5 : Int32 → Int32 → Int32 → Int32 → NM Int32} (K5 : Nat → Int32 → Int32 → Int32 → Int32 → MM Int32) (hk5 : ∀ (x1 : Int32) (x2 : Int32) (x3 : Int32) (x4 : Int32), Sm m rf (K5 m x1 x2 x3 x4) (k5 x1 x2 x3 x4)) {k14 : Int32 → Int32 → Int32 → Int32 → Int32 → NM Int32} (K14 : Nat → Int32 → Int32 → Int32 → Int32 → Int32 → MM Int32) (hk14 : ∀ (x1 : Int32) (x2 : Int32) (x3 : Int32) (x4 : Int32) (x5 : Int32), Sm m rf (K14 m x1 x2 x3 x4 x5) (k14 x1 x2 x3 x4 x5)) (x1 : Int32) (x2 : Int32) (x4 : Int32) (x5 : Int32) : Sm m rf (X12_isTwice_100 K5 K14 m x1 x2 x4 x5) (N12_isTwice_100 k5 k14 x1 x2 x4 x5) := by
  unfold X12_isTwice_100 N12_isTwice_100
  exact t_X12_isTwice_101 _ hk5 _ hk14 x1 x2 x4 x5 (0 : Int32)
theorem t_X12_isTwice_93 {m : Nat} {rf : Nat → Option Nat} {k5 : Int32 → Int32 → Int32 → Int32 → NM Int32} (K5 : Nat → Int32 → Int32 → Int32 → Int32 → MM Int32) (hk5 : ∀ (x1 : Int32) (x2 : Int32) (x3 : Int32) (x4 : Int32), Sm m rf (K5 m x1 x2 x3 x4) (k5 x1 x2 x3 x4)) {k14 : Int32 → Int32 → Int32 → Int32 → Int32 → NM Int32} (K14 : Nat → Int32 → Int32 → Int32 → Int32 → Int32 → MM Int32) (hk14 : ∀ (x1 : Int32) (x2 : Int32) (x3 : Int32) (x4 : Int32) (x5 : Int32), Sm m rf (K14 m x1 x2 x3 x4 x5) (k14 x1 x2 x3 x4 x5)) (x1 : Int32) (x2 : Int32) (x4 : Int32) (x5 : Int32) (y0 : Int32) (y1 : Int32) : Sm m rf (X12_isTwice_93 K5 K14 m x1 x2 x4 x5 y0 y1) (N12_isTwice_93 k5 k14 x1 x2 x4 x5 y0 y1) := by
  unfold X12_isTwice_93 N12_isTwice_93
  refine sm_ite ?_ ?_
  · exact t_X12_isTwice_96 _ hk5 _ hk14 x1 x2 x4 x5
  · exact t_X12_isTwice_100 _ hk5 _ hk14 x1 x2 x4 x5
theorem t_X12_isTwice_76 {m : Nat} {rf : Nat → Option Nat} {k5 : Int32 → Int32 → Int32 → Int32 → NM Int32} (K5 : Nat → Int32 → Int32 → Int32 → Int32 → MM Int32) (hk5 : ∀ (x1 : Int32) (x2 : Int32) (x3 : Int32) (x4 : Int32), Sm m rf (K5 m x1 x2 x3 x4) (k5 x1 x2 x3 x4)) {k14 : Int32 → Int32 → Int32 → Int32 → Int32 → NM Int32} (K14 : Nat → Int32 → Int32 → Int32 → Int32 → Int32 → MM Int32) (hk14 : ∀ (x1 : Int32) (x2 : Int32) (x3 : Int32) (x4 : Int32) (x5 : Int32), Sm m rf (K14 m x1 x2 x3 x4 x5) (k14 x1 x2 x3 x4 x5)) (x1 : Int32) (x2 : Int32) (x4 : Int32) (x5 : Int32) (y0 : Int32) : Sm m rf (X12_isTwice_76 K5 K14 m x1 x2 x4 x5 y0) (N12_isTwice_76 k5 k14 x1 x2 x4 x5 y0) := by
  unfold X12_isTwice_76 N12_isTwice_76
  refine sm_gR (k := 32) (by decide) rfl ?_
  refine sm_aI fun v1 => ?_
  refine sm_ite ?_ ?_
  · exact t_X12_isTwice_93 _ hk5 _ hk14 x1 x2 x4 x5 (1 : Int32) y0
  · exact t_X12_isTwice_93 _ hk5 _ hk14 x1 x2 x4 x5 (0 : Int32) y0
theorem t_X12_isTwice_108 {m : Nat} {rf : Nat → Option Nat} {k5 : Int32 → Int32 → Int32 → Int32 → NM Int32} (K5 : Nat → Int32 → Int32 → Int32 → Int32 → MM Int32) (hk5 : ∀ (x1 : Int32) (x2 : Int32) (x3 : Int32) (x4 : Int32), Sm m rf (K5 m x1 x2 x3 x4) (k5 x1 x2 x3 x4)) (x1 : Int32) (x2 : Int32) (x3 : Int32) (x4 : Int32) : Sm m rf (X12_isTwice_108 K5 m x1 x2 x3 x4) (N12_isTwice_108 k5 x1 x2 x3 x4) := by
  unfold X12_isTwice_108 N12_isTwice_108
  exact hk5 x1 x2 x3 (x4 + (1 : Int32))
theorem t_X12_isTwice_14_st {m : Nat} {rf : Nat → Option Nat} {k5 : Int32 → Int32 → Int32 → Int32 → NM Int32} (K5 : Nat → Int32 → Int32 → Int32 → Int32 → MM Int32) (hk5 : ∀ (x1 : Int32) (x2 : Int32) (x3 : Int32) (x4 : Int32), Sm m rf (K5 m x1 x2 x3 x4) (k5 x1 x2 x3 x4)) {k14 : Int32 → Int32 → Int32 → Int32 → Int32 → NM Int32} (K14 : Nat → Int32 → Int32 → Int32 → Int32 → Int32 → MM Int32) (hk14 : ∀ (x1 : Int32) (x2 : Int32) (x3 : Int32) (x4 : Int32) (x5 : Int32), Sm m rf (K14 m x1 x2 x3 x4 x5) (k14 x1 x2 x3 x4 x5)) (x1 : Int32) (x2 : Int32) (x3 : Int32) (x4 : Int32) (x5 : Int32) : Sm m rf (X12_isTwice_14_st K5 K14 m x1 x2 x3 x4 x5) (N12_isTwice_14_st k5 k14 x1 x2 x3 x4 x5) := by
  unfold X12_isTwice_14_st N12_isTwice_14_st
  refine sm_ite ?_ ?_
  · exact t_X12_isTwice_108 _ hk5 x1 x2 x3 x4
  · refine sm_ite ?_ ?_
    · refine sm_gR (k := 33) (by decide) rfl ?_
      refine sm_aI fun v1 => ?_
      refine sm_gR (k := 33) (by decide) rfl ?_
      refine sm_aI fun v2 => ?_
      refine sm_ite ?_ ?_
      · refine sm_gR (k := 34) (by decide) rfl ?_
        refine sm_aI fun v3 => ?_
        refine sm_gR (k := 34) (by decide) rfl ?_
        refine sm_aI fun v4 => ?_
        refine sm_ite ?_ ?_
        · refine sm_gR (k := 32) (by decide) rfl ?_
          refine sm_aI fun v5 => ?_
          refine sm_ite ?_ ?_
          · exact t_X12_isTwice_76 _ hk5 _ hk14 x1 x2 x4 x5 (1 : Int32)
          · exact t_X12_isTwice_76 _ hk5 _ hk14 x1 x2 x4 x5 (0 : Int32)
        · exact t_X12_isTwice_100 _ hk5 _ hk14 x1 x2 x4 x5
      · exact t_X12_isTwice_100 _ hk5 _ hk14 x1 x2 x4 x5
    · exact t_X12_isTwice_96 _ hk5 _ hk14 x1 x2 x4 x5
theorem t_X12_isTwice_14 {m : Nat} {rf : Nat → Option Nat} {k5 : Int32 → Int32 → Int32 → Int32 → NM Int32} (K5 : Nat → Int32 → Int32 → Int32 → Int32 → MM Int32) (hk5 : ∀ (x1 : Int32) (x2 : Int32) (x3 : Int32) (x4 : Int32), Sm m rf (K5 m x1 x2 x3 x4) (k5 x1 x2 x3 x4)) : ∀ (n : Nat) (x1 : Int32) (x2 : Int32) (x3 : Int32) (x4 : Int32) (x5 : Int32), Sm m rf (X12_isTwice_14 K5 n m x1 x2 x3 x4 x5) (N12_isTwice_14 k5 n x1 x2 x3 x4 x5) := by
  intro n
  induction n with
  | zero => intro x1 x2 x3 x4 x5; exact sm_mf
  | succ n ih => intro x1 x2 x3 x4 x5; exact t_X12_isTwice_14_st _ hk5 _ ih x1 x2 x3 x4 x5
theorem t_X12_isTwice_5_st {m : Nat} {rf : Nat → Option Nat} {k5 : Int32 → Int32 → Int32 → Int32 → NM Int32} (K5 : Nat → Int32 → Int32 → Int32 → Int32 → MM Int32) (hk5 : ∀ (x1 : Int32) (x2 : Int32) (x3 : Int32) (x4 : Int32), Sm m rf (K5 m x1 x2 x3 x4) (k5 x1 x2 x3 x4)) (x1 : Int32) (x2 : Int32) (x3 : Int32) (x4 : Int32) : Sm m rf (X12_isTwice_5_st  K5 m x1 x2 x3 x4) (N12_isTwice_5_st  k5 x1 x2 x3 x4) := by
  unfold X12_isTwice_5_st N12_isTwice_5_st
  refine sm_ite ?_ ?_
  · refine sm_nz fun v1 => ?_
    exact sm_ret
  · exact t_X12_isTwice_14 _ hk5 LFU x1 x2 x3 x4 x1
theorem t_X12_isTwice_5 {m : Nat} {rf : Nat → Option Nat} : ∀ (n : Nat) (x1 : Int32) (x2 : Int32) (x3 : Int32) (x4 : Int32), Sm m rf (X12_isTwice_5  n m x1 x2 x3 x4) (N12_isTwice_5  n x1 x2 x3 x4) := by
  intro n
  induction n with
  | zero => intro x1 x2 x3 x4; exact sm_mf
  | succ n ih => intro x1 x2 x3 x4; exact t_X12_isTwice_5_st  _ ih x1 x2 x3 x4
theorem t_X12_isTwice {m : Nat} {rf : Nat → Option Nat} (a1 : Int32) (a2 : Int32) : Sm m rf (X12_isTwice m a1 a2) (N12_isTwice a1 a2) := by
  unfold X12_isTwice N12_isTwice
  exact t_X12_isTwice_5  LFU a1 a2 (0 : Int32) a1
def N12_isFewPut_47 (k5 : Int32 → Int32 → Int32 → NM Int32) (x2 : Int32) (x4 : Int32) (y0 : Int32) : NM Int32 :=
  (k5 x2 y0 (x4 + (1 : Int32)))
def N12_isFewPut_42 (k5 : Int32 → Int32 → Int32 → NM Int32) (x2 : Int32) (x4 : Int32) : NM Int32 :=
  (N12_isFewPut_47 k5 x2 x4 (1 : Int32))
def N12_isFewPut_46 (k5 : Int32 → Int32 → Int32 → NM Int32) (x2 : Int32) (x4 : Int32) : NM Int32 :=
  (N12_isFewPut_47 k5 x2 x4 (0 : Int32))
def N12_isFewPut_5_st  (k5 : Int32 → Int32 → Int32 → NM Int32) (x2 : Int32) (x3 : Int32) (x4 : Int32) : NM Int32 :=
  if x2 ≤ x4 then (nb (nnz x3) fun v1 =>
  nr v1) else (if x3 = 0 then ((N12_isFewPut_46 k5 x2 x4)) else (nb (naI 32 x4) fun v2 =>
  if v2 = (43 : Int32) then (nb (naI 35 x4) fun v3 =>
  nb (N12_isIn v3 (1 : Int32) (4 : Int32)) fun v4 =>
  if v4 = 0 then ((N12_isFewPut_46 k5 x2 x4)) else ((N12_isFewPut_42 k5 x2 x4))) else ((N12_isFewPut_42 k5 x2 x4))))
def N12_isFewPut_5  : Nat → Int32 → Int32 → Int32 → NM Int32
  | 0 => fun _ _ _ => nf
  | n + 1 => fun x2 x3 x4 => N12_isFewPut_5_st  (N12_isFewPut_5  n) x2 x3 x4
def N12_isFewPut (a1 : Int32) (a2 : Int32) : NM Int32 :=
  (N12_isFewPut_5  LFU a2 (1 : Int32) a1)
theorem t_X12_isFewPut_47 {m : Nat} {rf : Nat → Option Nat} {k5 : Int32 → Int32 → Int32 → NM Int32} (K5 : Nat → Int32 → Int32 → Int32 → MM Int32) (hk5 : ∀ (x2 : Int32) (x3 : Int32) (x4 : Int32), Sm m rf (K5 m x2 x3 x4) (k5 x2 x3 x4)) (x2 : Int32) (x4 : Int32) (y0 : Int32) : Sm m rf (X12_isFewPut_47 K5 m x2 x4 y0) (N12_isFewPut_47 k5 x2 x4 y0) := by
  unfold X12_isFewPut_47 N12_isFewPut_47
  exact hk5 x2 y0 (x4 + (1 : Int32))
theorem t_X12_isFewPut_42 {m : Nat} {rf : Nat → Option Nat} {k5 : Int32 → Int32 → Int32 → NM Int32} (K5 : Nat → Int32 → Int32 → Int32 → MM Int32) (hk5 : ∀ (x2 : Int32) (x3 : Int32) (x4 : Int32), Sm m rf (K5 m x2 x3 x4) (k5 x2 x3 x4)) (x2 : Int32) (x4 : Int32) : Sm m rf (X12_isFewPut_42 K5 m x2 x4) (N12_isFewPut_42 k5 x2 x4) := by
  unfold X12_isFewPut_42 N12_isFewPut_42
  exact t_X12_isFewPut_47 _ hk5 x2 x4 (1 : Int32)
theorem t_X12_isFewPut_46 {m : Nat} {rf : Nat → Option Nat} {k5 : Int32 → Int32 → Int32 → NM Int32} (K5 : Nat → Int32 → Int32 → Int32 → MM Int32) (hk5 : ∀ (x2 : Int32) (x3 : Int32) (x4 : Int32), Sm m rf (K5 m x2 x3 x4) (k5 x2 x3 x4)) (x2 : Int32) (x4 : Int32) : Sm m rf (X12_isFewPut_46 K5 m x2 x4) (N12_isFewPut_46 k5 x2 x4) := by
  unfold X12_isFewPut_46 N12_isFewPut_46
  exact t_X12_isFewPut_47 _ hk5 x2 x4 (0 : Int32)
theorem t_X12_isFewPut_5_st {m : Nat} {rf : Nat → Option Nat} {k5 : Int32 → Int32 → Int32 → NM Int32} (K5 : Nat → Int32 → Int32 → Int32 → MM Int32) (hk5 : ∀ (x2 : Int32) (x3 : Int32) (x4 : Int32), Sm m rf (K5 m x2 x3 x4) (k5 x2 x3 x4)) (x2 : Int32) (x3 : Int32) (x4 : Int32) : Sm m rf (X12_isFewPut_5_st  K5 m x2 x3 x4) (N12_isFewPut_5_st  k5 x2 x3 x4) := by
  unfold X12_isFewPut_5_st N12_isFewPut_5_st
  refine sm_ite ?_ ?_
  · refine sm_nz fun v1 => ?_
    exact sm_ret
  · refine sm_ite ?_ ?_
    · exact t_X12_isFewPut_46 _ hk5 x2 x4
    · refine sm_gR (k := 32) (by decide) rfl ?_
      refine sm_aI fun v2 => ?_
      refine sm_ite ?_ ?_
      · refine sm_gR (k := 35) (by decide) rfl ?_
        refine sm_aI fun v3 => ?_
        refine sm_cal (t_X12_isIn v3 (1 : Int32) (4 : Int32)) fun v4 => ?_
        refine sm_ite ?_ ?_
        · exact t_X12_isFewPut_46 _ hk5 x2 x4
        · exact t_X12_isFewPut_42 _ hk5 x2 x4
      · exact t_X12_isFewPut_42 _ hk5 x2 x4
theorem t_X12_isFewPut_5 {m : Nat} {rf : Nat → Option Nat} : ∀ (n : Nat) (x2 : Int32) (x3 : Int32) (x4 : Int32), Sm m rf (X12_isFewPut_5  n m x2 x3 x4) (N12_isFewPut_5  n x2 x3 x4) := by
  intro n
  induction n with
  | zero => intro x2 x3 x4; exact sm_mf
  | succ n ih => intro x2 x3 x4; exact t_X12_isFewPut_5_st  _ ih x2 x3 x4
theorem t_X12_isFewPut {m : Nat} {rf : Nat → Option Nat} (a1 : Int32) (a2 : Int32) : Sm m rf (X12_isFewPut m a1 a2) (N12_isFewPut a1 a2) := by
  unfold X12_isFewPut N12_isFewPut
  exact t_X12_isFewPut_5  LFU a2 (1 : Int32) a1
def N12_faultOfGroup_181 (k114 : Int32 → Int32 → Int32 → Int32 → NM Int32) (x1 : Int32) (x4 : Int32) (x5 : Int32) (x6 : Int32) (y0 : Int32) (y1 : Int32) (y2 : Int32) : NM Int32 :=
  nb (N12_isIn y2 y1 y0) fun v1 =>
  if v1 = 0 then (nr (4 : Int32)) else ((k114 x1 x4 x5 (x6 + (1 : Int32))))
def N12_faultOfGroup_195  (x1 : Int32) : NM Int32 :=
  nb (naI 31 x1) fun v1 =>
  nb (naI 31 (x1 + (1 : Int32))) fun v2 =>
  nb (N12_isFewPut v1 v2) fun v3 =>
  if v3 = 0 then (nr (5 : Int32)) else (nb (naI 31 x1) fun v4 =>
  nb (naI 31 (x1 + (1 : Int32))) fun v5 =>
  nb (N12_isTwice v4 v5) fun v6 =>
  if v6 = 0 then (nr (0 : Int32)) else (nr (6 : Int32)))
def N12_faultOfGroup_114_st  (k114 : Int32 → Int32 → Int32 → Int32 → NM Int32) (x1 : Int32) (x4 : Int32) (x5 : Int32) (x6 : Int32) : NM Int32 :=
  nb (naI 31 (x1 + (1 : Int32))) fun v1 =>
  if v1 ≤ x6 then ((N12_faultOfGroup_195  x1)) else (nb (naI 33 x6) fun v2 =>
  nb (N12_isIn v2 x4 x5) fun v3 =>
  if v3 = 0 then (nr (4 : Int32)) else (nb (naI 34 x6) fun v4 =>
  nb (nrI (v2 - x4) (2 : Int32)) fun v5 =>
  if v5 = 0 then (nb (naI 29 x1) fun v6 =>
  (N12_faultOfGroup_181 k114 x1 x4 x5 x6 v6 (1 : Int32) v4)) else (nb (naI 30 x1) fun v7 =>
  (N12_faultOfGroup_181 k114 x1 x4 x5 x6 v7 (1 : Int32) v4))))
def N12_faultOfGroup_114  : Nat → Int32 → Int32 → Int32 → Int32 → NM Int32
  | 0 => fun _ _ _ _ => nf
  | n + 1 => fun x1 x4 x5 x6 => N12_faultOfGroup_114_st  (N12_faultOfGroup_114  n) x1 x4 x5 x6
def N12_faultOfGroup_80  (x1 : Int32) (x4 : Int32) (x5 : Int32) : NM Int32 :=
  nb (naI 29 x1) fun v1 =>
  nb (N12_isSize v1) fun v2 =>
  if v2 = 0 then (nr (3 : Int32)) else (nb (naI 30 x1) fun v3 =>
  nb (N12_isSize v3) fun v4 =>
  if v4 = 0 then (nr (3 : Int32)) else (nb (naI 31 x1) fun v5 =>
  (N12_faultOfGroup_114  LFU x1 x4 x5 v5)))
def N12_faultOfGroup_58  (x1 : Int32) (x2 : Int32) (x3 : Int32) (x4 : Int32) (x5 : Int32) : NM Int32 :=
  if x4 = (70 : Int32) then (if x3 = 0 then ((N12_faultOfGroup_80  x1 x4 x5)) else (nr (2 : Int32))) else (if x2 < x4 then ((N12_faultOfGroup_80  x1 x4 x5)) else (nr (2 : Int32)))
def N12_faultOfGroup (a1 : Int32) (a2 : Int32) (a3 : Int32) : NM Int32 :=
  nb (naI 26 a1) fun v1 =>
  nb (naI 27 a1) fun v2 =>
  nb (naZ 28 a1) fun v3 =>
  if v3 = 0 then ((N12_faultOfGroup_58  a1 a2 a3 v1 v2)) else (if v1 = 0 then (nr (1 : Int32)) else (if v1 = (70 : Int32) then (nr (1 : Int32)) else (if v2 = 0 then (nr (1 : Int32)) else (if v2 = (70 : Int32) then (nr (1 : Int32)) else (if v1 < v2 then ((N12_faultOfGroup_58  a1 a2 a3 v1 v2)) else (nr (1 : Int32)))))))
theorem t_X12_faultOfGroup_181 {m : Nat} {rf : Nat → Option Nat} {k114 : Int32 → Int32 → Int32 → Int32 → NM Int32} (K114 : Nat → Int32 → Int32 → Int32 → Int32 → MM Int32) (hk114 : ∀ (x1 : Int32) (x4 : Int32) (x5 : Int32) (x6 : Int32), Sm m rf (K114 m x1 x4 x5 x6) (k114 x1 x4 x5 x6)) (x1 : Int32) (x4 : Int32) (x5 : Int32) (x6 : Int32) (y0 : Int32) (y1 : Int32) (y2 : Int32) : Sm m rf (X12_faultOfGroup_181 K114 m x1 x4 x5 x6 y0 y1 y2) (N12_faultOfGroup_181 k114 x1 x4 x5 x6 y0 y1 y2) := by
  unfold X12_faultOfGroup_181 N12_faultOfGroup_181
  refine sm_cal (t_X12_isIn y2 y1 y0) fun v1 => ?_
  refine sm_ite ?_ ?_
  · exact sm_ret
  · exact hk114 x1 x4 x5 (x6 + (1 : Int32))
theorem t_X12_faultOfGroup_195 {m : Nat} {rf : Nat → Option Nat} (x1 : Int32) : Sm m rf (X12_faultOfGroup_195  m x1) (N12_faultOfGroup_195  x1) := by
  unfold X12_faultOfGroup_195 N12_faultOfGroup_195
  refine sm_gR (k := 31) (by decide) rfl ?_
  refine sm_aI fun v1 => ?_
  refine sm_gR (k := 31) (by decide) rfl ?_
  refine sm_aI fun v2 => ?_
  refine sm_wc (t_X12_isFewPut v1 v2) fun v3 => ?_
  refine sm_ite ?_ ?_
  · exact sm_ret
  · refine sm_gR (k := 31) (by decide) rfl ?_
    refine sm_aI fun v4 => ?_
    refine sm_gR (k := 31) (by decide) rfl ?_
    refine sm_aI fun v5 => ?_
    refine sm_wc (t_X12_isTwice v4 v5) fun v6 => ?_
    refine sm_ite ?_ ?_
    · exact sm_ret
    · exact sm_ret
theorem t_X12_faultOfGroup_114_st {m : Nat} {rf : Nat → Option Nat} {k114 : Int32 → Int32 → Int32 → Int32 → NM Int32} (K114 : Nat → Int32 → Int32 → Int32 → Int32 → MM Int32) (hk114 : ∀ (x1 : Int32) (x4 : Int32) (x5 : Int32) (x6 : Int32), Sm m rf (K114 m x1 x4 x5 x6) (k114 x1 x4 x5 x6)) (x1 : Int32) (x4 : Int32) (x5 : Int32) (x6 : Int32) : Sm m rf (X12_faultOfGroup_114_st  K114 m x1 x4 x5 x6) (N12_faultOfGroup_114_st  k114 x1 x4 x5 x6) := by
  unfold X12_faultOfGroup_114_st N12_faultOfGroup_114_st
  refine sm_gR (k := 31) (by decide) rfl ?_
  refine sm_aI fun v1 => ?_
  refine sm_ite ?_ ?_
  · exact t_X12_faultOfGroup_195  x1
  · refine sm_gR (k := 33) (by decide) rfl ?_
    refine sm_aI fun v2 => ?_
    refine sm_cal (t_X12_isIn v2 x4 x5) fun v3 => ?_
    refine sm_ite ?_ ?_
    · exact sm_ret
    · refine sm_gR (k := 34) (by decide) rfl ?_
      refine sm_aI fun v4 => ?_
      refine sm_rI fun v5 => ?_
      refine sm_ite ?_ ?_
      · refine sm_gR (k := 29) (by decide) rfl ?_
        refine sm_aI fun v6 => ?_
        exact t_X12_faultOfGroup_181 _ hk114 x1 x4 x5 x6 v6 (1 : Int32) v4
      · refine sm_gR (k := 30) (by decide) rfl ?_
        refine sm_aI fun v7 => ?_
        exact t_X12_faultOfGroup_181 _ hk114 x1 x4 x5 x6 v7 (1 : Int32) v4
theorem t_X12_faultOfGroup_114 {m : Nat} {rf : Nat → Option Nat} : ∀ (n : Nat) (x1 : Int32) (x4 : Int32) (x5 : Int32) (x6 : Int32), Sm m rf (X12_faultOfGroup_114  n m x1 x4 x5 x6) (N12_faultOfGroup_114  n x1 x4 x5 x6) := by
  intro n
  induction n with
  | zero => intro x1 x4 x5 x6; exact sm_mf
  | succ n ih => intro x1 x4 x5 x6; exact t_X12_faultOfGroup_114_st  _ ih x1 x4 x5 x6
theorem t_X12_faultOfGroup_80 {m : Nat} {rf : Nat → Option Nat} (x1 : Int32) (x4 : Int32) (x5 : Int32) : Sm m rf (X12_faultOfGroup_80  m x1 x4 x5) (N12_faultOfGroup_80  x1 x4 x5) := by
  unfold X12_faultOfGroup_80 N12_faultOfGroup_80
  refine sm_gR (k := 29) (by decide) rfl ?_
  refine sm_aI fun v1 => ?_
  refine sm_cal (t_X12_isSize v1) fun v2 => ?_
  refine sm_ite ?_ ?_
  · exact sm_ret
  · refine sm_gR (k := 30) (by decide) rfl ?_
    refine sm_aI fun v3 => ?_
    refine sm_cal (t_X12_isSize v3) fun v4 => ?_
    refine sm_ite ?_ ?_
    · exact sm_ret
    · refine sm_gR (k := 31) (by decide) rfl ?_
      refine sm_aI fun v5 => ?_
      exact t_X12_faultOfGroup_114  LFU x1 x4 x5 v5
theorem t_X12_faultOfGroup_58 {m : Nat} {rf : Nat → Option Nat} (x1 : Int32) (x2 : Int32) (x3 : Int32) (x4 : Int32) (x5 : Int32) : Sm m rf (X12_faultOfGroup_58  m x1 x2 x3 x4 x5) (N12_faultOfGroup_58  x1 x2 x3 x4 x5) := by
  unfold X12_faultOfGroup_58 N12_faultOfGroup_58
  refine sm_ite ?_ ?_
  · refine sm_ite ?_ ?_
    · exact t_X12_faultOfGroup_80  x1 x4 x5
    · exact sm_ret
  · refine sm_ite ?_ ?_
    · exact t_X12_faultOfGroup_80  x1 x4 x5
    · exact sm_ret
theorem t_X12_faultOfGroup {m : Nat} {rf : Nat → Option Nat} (a1 : Int32) (a2 : Int32) (a3 : Int32) : Sm m rf (X12_faultOfGroup m a1 a2 a3) (N12_faultOfGroup a1 a2 a3) := by
  unfold X12_faultOfGroup N12_faultOfGroup
  refine sm_gR (k := 26) (by decide) rfl ?_
  refine sm_aI fun v1 => ?_
  refine sm_gR (k := 27) (by decide) rfl ?_
  refine sm_aI fun v2 => ?_
  refine sm_gR (k := 28) (by decide) rfl ?_
  refine sm_aB fun v3 => ?_
  refine sm_ite ?_ ?_
  · exact t_X12_faultOfGroup_58  a1 a2 a3 v1 v2
  · refine sm_ite ?_ ?_
    · exact sm_ret
    · refine sm_ite ?_ ?_
      · exact sm_ret
      · refine sm_ite ?_ ?_
        · exact sm_ret
        · refine sm_ite ?_ ?_
          · exact sm_ret
          · refine sm_ite ?_ ?_
            · exact t_X12_faultOfGroup_58  a1 a2 a3 v1 v2
            · exact sm_ret
def N12_faultOfAll_54 (k6 : Int32 → Int32 → Int32 → NM Int32) (x1 : Int32) (x2 : Int32) (x3 : Int32) : NM Int32 :=
  (k6 x1 x2 (x3 + (1 : Int32)))
def N12_faultOfAll_6_st  (k6 : Int32 → Int32 → Int32 → NM Int32) (x1 : Int32) (x2 : Int32) (x3 : Int32) : NM Int32 :=
  nb (ngI 24) fun v1 =>
  if v1 ≤ x3 then (nr (0 : Int32)) else (nb (N12_faultOfGroup x3 x1 x2) fun v2 =>
  if v2 ≤ 0 then (nb (naI 26 x3) fun v3 =>
  if v3 = (70 : Int32) then ((N12_faultOfAll_54 k6 x1 (1 : Int32) x3)) else (nb (naI 27 x3) fun v4 =>
  (N12_faultOfAll_54 k6 v4 x2 x3))) else (nr v2))
def N12_faultOfAll_6  : Nat → Int32 → Int32 → Int32 → NM Int32
  | 0 => fun _ _ _ => nf
  | n + 1 => fun x1 x2 x3 => N12_faultOfAll_6_st  (N12_faultOfAll_6  n) x1 x2 x3
def N12_faultOfAll  : NM Int32 :=
  (N12_faultOfAll_6  LFU (-1 : Int32) (0 : Int32) (0 : Int32))
theorem t_X12_faultOfAll_54 {m : Nat} {rf : Nat → Option Nat} {k6 : Int32 → Int32 → Int32 → NM Int32} (K6 : Nat → Int32 → Int32 → Int32 → MM Int32) (hk6 : ∀ (x1 : Int32) (x2 : Int32) (x3 : Int32), Sm m rf (K6 m x1 x2 x3) (k6 x1 x2 x3)) (x1 : Int32) (x2 : Int32) (x3 : Int32) : Sm m rf (X12_faultOfAll_54 K6 m x1 x2 x3) (N12_faultOfAll_54 k6 x1 x2 x3) := by
  unfold X12_faultOfAll_54 N12_faultOfAll_54
  exact hk6 x1 x2 (x3 + (1 : Int32))
theorem t_X12_faultOfAll_6_st {m : Nat} {rf : Nat → Option Nat} {k6 : Int32 → Int32 → Int32 → NM Int32} (K6 : Nat → Int32 → Int32 → Int32 → MM Int32) (hk6 : ∀ (x1 : Int32) (x2 : Int32) (x3 : Int32), Sm m rf (K6 m x1 x2 x3) (k6 x1 x2 x3)) (x1 : Int32) (x2 : Int32) (x3 : Int32) : Sm m rf (X12_faultOfAll_6_st  K6 m x1 x2 x3) (N12_faultOfAll_6_st  k6 x1 x2 x3) := by
  unfold X12_faultOfAll_6_st N12_faultOfAll_6_st
  refine sm_gI (k := 24) (by decide) rfl fun v1 => ?_
  refine sm_ite ?_ ?_
  · exact sm_ret
  · refine sm_wc (t_X12_faultOfGroup x3 x1 x2) fun v2 => ?_
    refine sm_ite ?_ ?_
    · refine sm_gR (k := 26) (by decide) rfl ?_
      refine sm_aI fun v3 => ?_
      refine sm_ite ?_ ?_
      · exact t_X12_faultOfAll_54 _ hk6 x1 (1 : Int32) x3
      · refine sm_gR (k := 27) (by decide) rfl ?_
        refine sm_aI fun v4 => ?_
        exact t_X12_faultOfAll_54 _ hk6 v4 x2 x3
    · exact sm_ret
theorem t_X12_faultOfAll_6 {m : Nat} {rf : Nat → Option Nat} : ∀ (n : Nat) (x1 : Int32) (x2 : Int32) (x3 : Int32), Sm m rf (X12_faultOfAll_6  n m x1 x2 x3) (N12_faultOfAll_6  n x1 x2 x3) := by
  intro n
  induction n with
  | zero => intro x1 x2 x3; exact sm_mf
  | succ n ih => intro x1 x2 x3; exact t_X12_faultOfAll_6_st  _ ih x1 x2 x3
theorem t_X12_faultOfAll {m : Nat} {rf : Nat → Option Nat}  : Sm m rf (X12_faultOfAll m) (N12_faultOfAll ) := by
  unfold X12_faultOfAll N12_faultOfAll
  exact t_X12_faultOfAll_6  LFU (-1 : Int32) (0 : Int32) (0 : Int32)
def N12_apply (a1 : Int32) (a2 : Int32) : NM Unit :=
  nb (naI 33 a2) fun v1 =>
  nb (N12_gatheringOf a1 v1) fun v2 =>
  nb (naI 34 a2) fun v3 =>
  nb (N12_spot a1 v2 v3) fun v4 =>
  nb (naI 32 a2) fun v5 =>
  if v5 = (43 : Int32) then (nb (naI 35 a2) fun v6 =>
  nb (nsI 10 v4 v6) fun _ =>
  nr ()) else (nb (naI 32 a2) fun v7 =>
  if v7 = (45 : Int32) then (nb (nsI 9 v4 (1 : Int32)) fun _ =>
  nr ()) else (nb (nsI 9 v4 (2 : Int32)) fun _ =>
  nr ()))
theorem t_X12_apply {m : Nat} {rf : Nat → Option Nat} (a1 : Int32) (a2 : Int32) : Sm m rf (X12_apply m a1 a2) (N12_apply a1 a2) := by
  unfold X12_apply N12_apply
  refine sm_gR (k := 33) (by decide) rfl ?_
  refine sm_aI fun v1 => ?_
  refine sm_wc (t_X12_gatheringOf a1 v1) fun v2 => ?_
  refine sm_gR (k := 34) (by decide) rfl ?_
  refine sm_aI fun v3 => ?_
  refine sm_cal (t_X12_spot a1 v2 v3) fun v4 => ?_
  refine sm_gR (k := 32) (by decide) rfl ?_
  refine sm_aI fun v5 => ?_
  refine sm_ite ?_ ?_
  · refine sm_gR (k := 10) (by decide) rfl ?_
    refine sm_gR (k := 35) (by decide) rfl ?_
    refine sm_aI fun v6 => ?_
    refine sm_sI ?_
    exact sm_ret
  · refine sm_gR (k := 9) (by decide) rfl ?_
    refine sm_gR (k := 32) (by decide) rfl ?_
    refine sm_aI fun v7 => ?_
    refine sm_ite ?_ ?_
    · refine sm_sI ?_
      exact sm_ret
    · refine sm_sI ?_
      exact sm_ret
def N12_isMade (a1 : Int32) : NM Int32 :=
  nb (N12_total a1) fun v1 =>
  if v1 ≤ (400 : Int32) then (nb (N12_layOut a1) fun _ =>
  nb (ngI 5) fun v2 =>
  nb (npI 5 (v2 + (1 : Int32))) fun _ =>
  nb (N12_fine a1) fun v3 =>
  nr v3) else (nb (N12_no (9 : Int32)) fun v4 =>
  nr v4)
theorem t_X12_isMade {m : Nat} {rf : Nat → Option Nat} (a1 : Int32) : Sm m rf (X12_isMade m a1) (N12_isMade a1) := by
  unfold X12_isMade N12_isMade
  refine sm_wc (t_X12_total a1) fun v1 => ?_
  refine sm_ite ?_ ?_
  · refine sm_wc (t_X12_layOut a1) fun _ => ?_
    refine sm_gI (k := 5) (by decide) rfl fun v2 => ?_
    refine sm_pI (k := 5) (by decide) rfl ?_
    refine sm_wc (t_X12_fine a1) fun v3 => ?_
    exact sm_ret
  · refine sm_wc (t_X12_no (9 : Int32)) fun v4 => ?_
    exact sm_ret
def N12_add_78  (x1 : Int32) : NM Unit :=
  nb (naI 6 x1) fun v1 =>
  nb (nsI 6 x1 (v1 + (1 : Int32))) fun _ =>
  nr ()
def N12_add_37_st  (k37 : Int32 → Int32 → Int32 → NM Unit) (x1 : Int32) (x4 : Int32) (x5 : Int32) : NM Unit :=
  if (12 : Int32) < x5 then ((N12_add_78  x1)) else (nb (N12_spot x1 x4 x5) fun v1 =>
  nb (nsI 9 v1 (0 : Int32)) fun _ =>
  nb (N12_spot x1 x4 x5) fun v2 =>
  nb (nsI 10 v2 (0 : Int32)) fun _ =>
  (k37 x1 x4 (x5 + (1 : Int32))))
def N12_add_37  : Nat → Int32 → Int32 → Int32 → NM Unit
  | 0 => fun _ _ _ => nf
  | n + 1 => fun x1 x4 x5 => N12_add_37_st  (N12_add_37  n) x1 x4 x5
def N12_add (a1 : Int32) (a2 : Int32) (a3 : Int32) : NM Unit :=
  nb (naI 6 a1) fun v1 =>
  nb (nsI 7 ((a1 * (71 : Int32)) + v1) a2) fun _ =>
  nb (nsI 8 ((a1 * (71 : Int32)) + v1) a3) fun _ =>
  (N12_add_37  LFU a1 v1 (0 : Int32))
theorem t_X12_add_78 {m : Nat} {rf : Nat → Option Nat} (x1 : Int32) : Sm m rf (X12_add_78  m x1) (N12_add_78  x1) := by
  unfold X12_add_78 N12_add_78
  refine sm_gR (k := 6) (by decide) rfl ?_
  refine sm_aI fun v1 => ?_
  refine sm_sI ?_
  exact sm_ret
theorem t_X12_add_37_st {m : Nat} {rf : Nat → Option Nat} {k37 : Int32 → Int32 → Int32 → NM Unit} (K37 : Nat → Int32 → Int32 → Int32 → MM Unit) (hk37 : ∀ (x1 : Int32) (x4 : Int32) (x5 : Int32), Sm m rf (K37 m x1 x4 x5) (k37 x1 x4 x5)) (x1 : Int32) (x4 : Int32) (x5 : Int32) : Sm m rf (X12_add_37_st  K37 m x1 x4 x5) (N12_add_37_st  k37 x1 x4 x5) := by
  unfold X12_add_37_st N12_add_37_st
  refine sm_ite ?_ ?_
  · exact t_X12_add_78  x1
  · refine sm_gR (k := 9) (by decide) rfl ?_
    refine sm_cal (t_X12_spot x1 x4 x5) fun v1 => ?_
    refine sm_sI ?_
    refine sm_gR (k := 10) (by decide) rfl ?_
    refine sm_cal (t_X12_spot x1 x4 x5) fun v2 => ?_
    refine sm_sI ?_
    exact hk37 x1 x4 (x5 + (1 : Int32))
theorem t_X12_add_37 {m : Nat} {rf : Nat → Option Nat} : ∀ (n : Nat) (x1 : Int32) (x4 : Int32) (x5 : Int32), Sm m rf (X12_add_37  n m x1 x4 x5) (N12_add_37  n x1 x4 x5) := by
  intro n
  induction n with
  | zero => intro x1 x4 x5; exact sm_mf
  | succ n ih => intro x1 x4 x5; exact t_X12_add_37_st  _ ih x1 x4 x5
theorem t_X12_add {m : Nat} {rf : Nat → Option Nat} (a1 : Int32) (a2 : Int32) (a3 : Int32) : Sm m rf (X12_add m a1 a2 a3) (N12_add a1 a2 a3) := by
  unfold X12_add N12_add
  refine sm_gR (k := 6) (by decide) rfl ?_
  refine sm_aI fun v1 => ?_
  refine sm_gR (k := 7) (by decide) rfl ?_
  refine sm_sI ?_
  refine sm_gR (k := 8) (by decide) rfl ?_
  refine sm_sI ?_
  exact t_X12_add_37  LFU a1 v1 (0 : Int32)
def N12_write (a1 : Int32) : NM Unit :=
  nb (ngI 37) fun v1 =>
  nb (nsI 36 v1 a1) fun _ =>
  nb (ngI 37) fun v2 =>
  nb (npI 37 (v2 + (1 : Int32))) fun _ =>
  nr ()
theorem t_X12_write {m : Nat} {rf : Nat → Option Nat} (a1 : Int32) : Sm m rf (X12_write m a1) (N12_write a1) := by
  unfold X12_write N12_write
  refine sm_gR (k := 36) (by decide) rfl ?_
  refine sm_gI (k := 37) (by decide) rfl fun v1 => ?_
  refine sm_sI ?_
  refine sm_gI (k := 37) (by decide) rfl fun v2 => ?_
  refine sm_pI (k := 37) (by decide) rfl ?_
  exact sm_ret
def N12_writeNumber_37  (x1 : Int32) : NM Unit :=
  nb (nrI x1 (10 : Int32)) fun v1 =>
  nb (N12_write ((48 : Int32) + v1)) fun _ =>
  nr ()
def N12_writeNumber_17  (x1 : Int32) : NM Unit :=
  if x1 ≤ (9 : Int32) then ((N12_writeNumber_37  x1)) else (nb (ndI x1 (10 : Int32)) fun v1 =>
  nb (nrI v1 (10 : Int32)) fun v2 =>
  nb (N12_write ((48 : Int32) + v2)) fun _ =>
  (N12_writeNumber_37  x1))
def N12_writeNumber (a1 : Int32) : NM Unit :=
  if a1 ≤ (99 : Int32) then ((N12_writeNumber_17  a1)) else (nb (ndI a1 (100 : Int32)) fun v1 =>
  nb (N12_write ((48 : Int32) + v1)) fun _ =>
  (N12_writeNumber_17  a1))
theorem t_X12_writeNumber_37 {m : Nat} {rf : Nat → Option Nat} (x1 : Int32) : Sm m rf (X12_writeNumber_37  m x1) (N12_writeNumber_37  x1) := by
  unfold X12_writeNumber_37 N12_writeNumber_37
  refine sm_rI fun v1 => ?_
  refine sm_wc (t_X12_write ((48 : Int32) + v1)) fun _ => ?_
  exact sm_ret
theorem t_X12_writeNumber_17 {m : Nat} {rf : Nat → Option Nat} (x1 : Int32) : Sm m rf (X12_writeNumber_17  m x1) (N12_writeNumber_17  x1) := by
  unfold X12_writeNumber_17 N12_writeNumber_17
  refine sm_ite ?_ ?_
  · exact t_X12_writeNumber_37  x1
  · refine sm_dI fun v1 => ?_
    refine sm_rI fun v2 => ?_
    refine sm_wc (t_X12_write ((48 : Int32) + v2)) fun _ => ?_
    exact t_X12_writeNumber_37  x1
theorem t_X12_writeNumber {m : Nat} {rf : Nat → Option Nat} (a1 : Int32) : Sm m rf (X12_writeNumber m a1) (N12_writeNumber a1) := by
  unfold X12_writeNumber N12_writeNumber
  refine sm_ite ?_ ?_
  · exact t_X12_writeNumber_17  a1
  · refine sm_dI fun v1 => ?_
    refine sm_wc (t_X12_write ((48 : Int32) + v1)) fun _ => ?_
    exact t_X12_writeNumber_17  a1
def N12_writeWord_2_st  (k2 : Nat → Int32 → NM Unit) (x1 : Nat) (x2 : Int32) : NM Unit :=
  nb (nSl x1) fun v1 =>
  if v1 ≤ x2 then (nr ()) else (nb (nSc x1 x2) fun v2 =>
  nb (N12_write v2) fun _ =>
  (k2 x1 (x2 + (1 : Int32))))
def N12_writeWord_2  : Nat → Nat → Int32 → NM Unit
  | 0 => fun _ _ => nf
  | n + 1 => fun x1 x2 => N12_writeWord_2_st  (N12_writeWord_2  n) x1 x2
def N12_writeWord (a1 : Nat) : NM Unit :=
  (N12_writeWord_2  LFU a1 (0 : Int32))
theorem t_X12_writeWord_2_st {m : Nat} {rf : Nat → Option Nat} {k2 : Nat → Int32 → NM Unit} (K2 : Nat → Option Nat → Int32 → MM Unit) (hk2 : ∀ (x1 : Nat) (x2 : Int32), Sm m rf (K2 m (rf x1) x2) (k2 x1 x2)) (x1 : Nat) (x2 : Int32) : Sm m rf (X12_writeWord_2_st  K2 m (rf x1) x2) (N12_writeWord_2_st  k2 x1 x2) := by
  unfold X12_writeWord_2_st N12_writeWord_2_st
  refine sm_nSl fun v1 => ?_
  refine sm_ite ?_ ?_
  · exact sm_ret
  · refine sm_nSc fun v2 => ?_
    refine sm_wc (t_X12_write v2) fun _ => ?_
    exact hk2 x1 (x2 + (1 : Int32))
theorem t_X12_writeWord_2 {m : Nat} {rf : Nat → Option Nat} : ∀ (n : Nat) (x1 : Nat) (x2 : Int32), Sm m rf (X12_writeWord_2  n m (rf x1) x2) (N12_writeWord_2  n x1 x2) := by
  intro n
  induction n with
  | zero => intro x1 x2; exact sm_mf
  | succ n ih => intro x1 x2; exact t_X12_writeWord_2_st  _ ih x1 x2
theorem t_X12_writeWord {m : Nat} {rf : Nat → Option Nat} (a1 : Nat) : Sm m rf (X12_writeWord m (rf a1)) (N12_writeWord a1) := by
  unfold X12_writeWord N12_writeWord
  exact t_X12_writeWord_2  LFU a1 (0 : Int32)
def N12_writeSign_30_st  (k30 : Int32 → Int32 → NM Unit) (x1 : Int32) (x2 : Int32) : NM Unit :=
  nb (ndI (x1 - (1 : Int32)) (23 : Int32)) fun v1 =>
  if v1 < x2 then (nr ()) else (nb (nrI (x1 - (1 : Int32)) (23 : Int32)) fun v2 =>
  nb (nSc 12 v2) fun v3 =>
  nb (N12_write v3) fun _ =>
  (k30 x1 (x2 + (1 : Int32))))
def N12_writeSign_30  : Nat → Int32 → Int32 → NM Unit
  | 0 => fun _ _ => nf
  | n + 1 => fun x1 x2 => N12_writeSign_30_st  (N12_writeSign_30  n) x1 x2
def N12_writeSign (a1 : Int32) : NM Unit :=
  if a1 = 0 then (nb (N12_writeWord 10) fun _ =>
  nr ()) else (if a1 = (70 : Int32) then (nb (N12_writeWord 11) fun _ =>
  nr ()) else ((N12_writeSign_30  LFU a1 (0 : Int32))))
theorem t_X12_writeSign_30_st {m : Nat} {rf : Nat → Option Nat} {k30 : Int32 → Int32 → NM Unit} (K30 : Nat → Int32 → Int32 → MM Unit) (hk30 : ∀ (x1 : Int32) (x2 : Int32), Sm m rf (K30 m x1 x2) (k30 x1 x2)) (x1 : Int32) (x2 : Int32) : Sm m rf (X12_writeSign_30_st  K30 m x1 x2) (N12_writeSign_30_st  k30 x1 x2) := by
  unfold X12_writeSign_30_st N12_writeSign_30_st
  refine sm_dI fun v1 => ?_
  refine sm_ite ?_ ?_
  · exact sm_ret
  · refine sm_kR (i := 12) ?_
    refine sm_rI fun v2 => ?_
    refine sm_nSc fun v3 => ?_
    refine sm_wc (t_X12_write v3) fun _ => ?_
    exact hk30 x1 (x2 + (1 : Int32))
theorem t_X12_writeSign_30 {m : Nat} {rf : Nat → Option Nat} : ∀ (n : Nat) (x1 : Int32) (x2 : Int32), Sm m rf (X12_writeSign_30  n m x1 x2) (N12_writeSign_30  n x1 x2) := by
  intro n
  induction n with
  | zero => intro x1 x2; exact sm_mf
  | succ n ih => intro x1 x2; exact t_X12_writeSign_30_st  _ ih x1 x2
theorem t_X12_writeSign {m : Nat} {rf : Nat → Option Nat} (a1 : Int32) : Sm m rf (X12_writeSign m a1) (N12_writeSign a1) := by
  unfold X12_writeSign N12_writeSign
  refine sm_ite ?_ ?_
  · refine sm_kR (i := 10) ?_
    refine sm_wc (t_X12_writeWord 10) fun _ => ?_
    exact sm_ret
  · refine sm_ite ?_ ?_
    · refine sm_kR (i := 11) ?_
      refine sm_wc (t_X12_writeWord 11) fun _ => ?_
      exact sm_ret
    · exact t_X12_writeSign_30  LFU a1 (0 : Int32)
def N12_isLetters (a0 : Int32) : NM Int32 :=
  if a0 = 0 then (nr (0 : Int32)) else (if a0 = (70 : Int32) then (nr (0 : Int32)) else (nr (1 : Int32)))
theorem t_X12_isLetters {m : Nat} {rf : Nat → Option Nat} (a0 : Int32) : Sm m rf (X12_isLetters a0) (N12_isLetters a0) := by
  unfold X12_isLetters N12_isLetters
  refine sm_ite ?_ ?_
  · exact sm_ret
  · refine sm_ite ?_ ?_
    · exact sm_ret
    · exact sm_ret
def N12_writeChanges_172 (k6 : Int32 → Int32 → Int32 → Int32 → NM Unit) (k15 : Int32 → Int32 → Int32 → Int32 → Int32 → NM Unit) (k45 : Int32 → Int32 → Int32 → Int32 → Int32 → Int32 → Int32 → NM Unit) (x1 : Int32) (x3 : Int32) (x4 : Int32) (x5 : Int32) (x6 : Int32) (x7 : Int32) (x8 : Int32) : NM Unit :=
  (k45 x1 x3 x4 x5 x6 x7 (x8 + (1 : Int32)))
def N12_writeChanges_125 (k6 : Int32 → Int32 → Int32 → Int32 → NM Unit) (k15 : Int32 → Int32 → Int32 → Int32 → Int32 → NM Unit) (k45 : Int32 → Int32 → Int32 → Int32 → Int32 → Int32 → Int32 → NM Unit) (x1 : Int32) (x3 : Int32) (x4 : Int32) (x5 : Int32) (x6 : Int32) (x7 : Int32) (x8 : Int32) : NM Unit :=
  nb (naI 7 ((x1 * (71 : Int32)) + x5)) fun v1 =>
  nb (N12_writeSign v1) fun _ =>
  nb (N12_writeNumber x6) fun _ =>
  if x8 = 0 then ((N12_writeChanges_172 k6 k15 k45 x1 x3 x4 x5 x6 x7 x8)) else (nb (N12_write (43 : Int32)) fun _ =>
  nb (naI 10 x7) fun v2 =>
  nb (N12_writeNumber v2) fun _ =>
  (N12_writeChanges_172 k6 k15 k45 x1 x3 x4 x5 x6 x7 x8))
def N12_writeChanges_122 (k6 : Int32 → Int32 → Int32 → Int32 → NM Unit) (k15 : Int32 → Int32 → Int32 → Int32 → Int32 → NM Unit) (k45 : Int32 → Int32 → Int32 → Int32 → Int32 → Int32 → Int32 → NM Unit) (x1 : Int32) (x3 : Int32) (x4 : Int32) (x5 : Int32) (x6 : Int32) (x7 : Int32) (x8 : Int32) (y0 : Int32) : NM Unit :=
  nb (N12_write y0) fun _ =>
  (N12_writeChanges_125 k6 k15 k45 x1 x3 x4 x5 x6 x7 x8)
def N12_writeChanges_92 (k6 : Int32 → Int32 → Int32 → Int32 → NM Unit) (k15 : Int32 → Int32 → Int32 → Int32 → Int32 → NM Unit) (k45 : Int32 → Int32 → Int32 → Int32 → Int32 → Int32 → Int32 → NM Unit) (x1 : Int32) (x3 : Int32) (x5 : Int32) (x6 : Int32) (x7 : Int32) (x8 : Int32) (y0 : Int32) : NM Unit :=
  nb (N12_write y0) fun _ =>
  if x8 = 0 then (nb (naI 9 x7) fun v1 =>
  if v1 = (1 : Int32) then ((N12_writeChanges_122 k6 k15 k45 x1 x3 (1 : Int32) x5 x6 x7 x8 (45 : Int32))) else ((N12_writeChanges_122 k6 k15 k45 x1 x3 (1 : Int32) x5 x6 x7 x8 (61 : Int32)))) else ((N12_writeChanges_125 k6 k15 k45 x1 x3 (1 : Int32) x5 x6 x7 x8))
def N12_writeChanges_73 (k6 : Int32 → Int32 → Int32 → Int32 → NM Unit) (k15 : Int32 → Int32 → Int32 → Int32 → Int32 → NM Unit) (k45 : Int32 → Int32 → Int32 → Int32 → Int32 → Int32 → Int32 → NM Unit) (x1 : Int32) (x3 : Int32) (x4 : Int32) (x5 : Int32) (x6 : Int32) (x7 : Int32) (x8 : Int32) (y0 : Int32) : NM Unit :=
  if y0 = 0 then ((N12_writeChanges_172 k6 k15 k45 x1 x3 x4 x5 x6 x7 x8)) else (if x4 = 0 then ((N12_writeChanges_92 k6 k15 k45 x1 x3 x5 x6 x7 x8 (40 : Int32))) else ((N12_writeChanges_92 k6 k15 k45 x1 x3 x5 x6 x7 x8 (44 : Int32))))
def N12_writeChanges_178 (k6 : Int32 → Int32 → Int32 → Int32 → NM Unit) (k15 : Int32 → Int32 → Int32 → Int32 → Int32 → NM Unit) (x1 : Int32) (x3 : Int32) (x4 : Int32) (x5 : Int32) (x6 : Int32) : NM Unit :=
  (k15 x1 x3 x4 x5 (x6 + (1 : Int32)))
def N12_writeChanges_45_st (k6 : Int32 → Int32 → Int32 → Int32 → NM Unit) (k15 : Int32 → Int32 → Int32 → Int32 → Int32 → NM Unit) (k45 : Int32 → Int32 → Int32 → Int32 → Int32 → Int32 → Int32 → NM Unit) (x1 : Int32) (x3 : Int32) (x4 : Int32) (x5 : Int32) (x6 : Int32) (x7 : Int32) (x8 : Int32) : NM Unit :=
  if (2 : Int32) ≤ x8 then ((N12_writeChanges_178 k6 k15 x1 x3 x4 x5 x6)) else (if x8 = 0 then (nb (naI 9 x7) fun v1 =>
  (N12_writeChanges_73 k6 k15 k45 x1 x3 x4 x5 x6 x7 x8 v1)) else (nb (naI 10 x7) fun v2 =>
  (N12_writeChanges_73 k6 k15 k45 x1 x3 x4 x5 x6 x7 x8 v2)))
def N12_writeChanges_45 (k6 : Int32 → Int32 → Int32 → Int32 → NM Unit) (k15 : Int32 → Int32 → Int32 → Int32 → Int32 → NM Unit) : Nat → Int32 → Int32 → Int32 → Int32 → Int32 → Int32 → Int32 → NM Unit
  | 0 => fun _ _ _ _ _ _ _ => nf
  | n + 1 => fun x1 x3 x4 x5 x6 x7 x8 => N12_writeChanges_45_st k6 k15 (N12_writeChanges_45 k6 k15 n) x1 x3 x4 x5 x6 x7 x8
def N12_writeChanges_184 (k6 : Int32 → Int32 → Int32 → Int32 → NM Unit) (x1 : Int32) (x3 : Int32) (x4 : Int32) (x5 : Int32) : NM Unit :=
  (k6 x1 x3 x4 (x5 + (1 : Int32)))
def N12_writeChanges_15_st (k6 : Int32 → Int32 → Int32 → Int32 → NM Unit) (k15 : Int32 → Int32 → Int32 → Int32 → Int32 → NM Unit) (x1 : Int32) (x3 : Int32) (x4 : Int32) (x5 : Int32) (x6 : Int32) : NM Unit :=
  nb (naI 8 ((x1 * (71 : Int32)) + x5)) fun v1 =>
  if v1 < x6 then ((N12_writeChanges_184 k6 x1 x3 x4 x5)) else (nb (N12_spot x1 x5 x6) fun v2 =>
  (N12_writeChanges_45 k6 k15 LFU x1 x3 x4 x5 x6 v2 (0 : Int32)))
def N12_writeChanges_15 (k6 : Int32 → Int32 → Int32 → Int32 → NM Unit) : Nat → Int32 → Int32 → Int32 → Int32 → Int32 → NM Unit
  | 0 => fun _ _ _ _ _ => nf
  | n + 1 => fun x1 x3 x4 x5 x6 => N12_writeChanges_15_st k6 (N12_writeChanges_15 k6 n) x1 x3 x4 x5 x6
def N12_writeChanges_190  (x4 : Int32) : NM Unit :=
  if x4 = 0 then (nr ()) else (nb (N12_write (41 : Int32)) fun _ =>
  nr ())
def N12_writeChanges_6_st  (k6 : Int32 → Int32 → Int32 → Int32 → NM Unit) (x1 : Int32) (x3 : Int32) (x4 : Int32) (x5 : Int32) : NM Unit :=
  if x3 < x5 then ((N12_writeChanges_190  x4)) else ((N12_writeChanges_15 k6 LFU x1 x3 x4 x5 (1 : Int32)))
def N12_writeChanges_6  : Nat → Int32 → Int32 → Int32 → Int32 → NM Unit
  | 0 => fun _ _ _ _ => nf
  | n + 1 => fun x1 x3 x4 x5 => N12_writeChanges_6_st  (N12_writeChanges_6  n) x1 x3 x4 x5
def N12_writeChanges (a1 : Int32) (a2 : Int32) (a3 : Int32) : NM Unit :=
  (N12_writeChanges_6  LFU a1 a3 (0 : Int32) a2)
theorem t_X12_writeChanges_172 {m : Nat} {rf : Nat → Option Nat} {k6 : Int32 → Int32 → Int32 → Int32 → NM Unit} (K6 : Nat → Int32 → Int32 → Int32 → Int32 → MM Unit) (hk6 : ∀ (x1 : Int32) (x3 : Int32) (x4 : Int32) (x5 : Int32), Sm m rf (K6 m x1 x3 x4 x5) (k6 x1 x3 x4 x5)) {k15 : Int32 → Int32 → Int32 → Int32 → Int32 → NM Unit} (K15 : Nat → Int32 → Int32 → Int32 → Int32 → Int32 → MM Unit) (hk15 : ∀ (x1 : Int32) (x3 : Int32) (x4 : Int32) (x5 : Int32) (x6 : Int32), Sm m rf (K15 m x1 x3 x4 x5 x6) (k15 x1 x3 x4 x5 x6)) {k45 : Int32 → Int32 → Int32 → Int32 → Int32 → Int32 → Int32 → NM Unit} (K45 : Nat → Int32 → Int32 → Int32 → Int32 → Int32 → Int32 → Int32 → MM Unit) (hk45 : ∀ (x1 : Int32) (x3 : Int32) (x4 : Int32) (x5 : Int32) (x6 : Int32) (x7 : Int32) (x8 : Int32), Sm m rf (K45 m x1 x3 x4 x5 x6 x7 x8) (k45 x1 x3 x4 x5 x6 x7 x8)) (x1 : Int32) (x3 : Int32) (x4 : Int32) (x5 : Int32) (x6 : Int32) (x7 : Int32) (x8 : Int32) : Sm m rf (X12_writeChanges_172 K6 K15 K45 m x1 x3 x4 x5 x6 x7 x8) (N12_writeChanges_172 k6 k15 k45 x1 x3 x4 x5 x6 x7 x8) := by
  unfold X12_writeChanges_172 N12_writeChanges_172
  exact hk45 x1 x3 x4 x5 x6 x7 (x8 + (1 : Int32))
theorem t_X12_writeChanges_125 {m : Nat} {rf : Nat → Option Nat} {k6 : Int32 → Int32 → Int32 → Int32 → NM Unit} (K6 : Nat → Int32 → Int32 → Int32 → Int32 → MM Unit) (hk6 : ∀ (x1 : Int32) (x3 : Int32) (x4 : Int32) (x5 : Int32), Sm m rf (K6 m x1 x3 x4 x5) (k6 x1 x3 x4 x5)) {k15 : Int32 → Int32 → Int32 → Int32 → Int32 → NM Unit} (K15 : Nat → Int32 → Int32 → Int32 → Int32 → Int32 → MM Unit) (hk15 : ∀ (x1 : Int32) (x3 : Int32) (x4 : Int32) (x5 : Int32) (x6 : Int32), Sm m rf (K15 m x1 x3 x4 x5 x6) (k15 x1 x3 x4 x5 x6)) {k45 : Int32 → Int32 → Int32 → Int32 → Int32 → Int32 → Int32 → NM Unit} (K45 : Nat → Int32 → Int32 → Int32 → Int32 → Int32 → Int32 → Int32 → MM Unit) (hk45 : ∀ (x1 : Int32) (x3 : Int32) (x4 : Int32) (x5 : Int32) (x6 : Int32) (x7 : Int32) (x8 : Int32), Sm m rf (K45 m x1 x3 x4 x5 x6 x7 x8) (k45 x1 x3 x4 x5 x6 x7 x8)) (x1 : Int32) (x3 : Int32) (x4 : Int32) (x5 : Int32) (x6 : Int32) (x7 : Int32) (x8 : Int32) : Sm m rf (X12_writeChanges_125 K6 K15 K45 m x1 x3 x4 x5 x6 x7 x8) (N12_writeChanges_125 k6 k15 k45 x1 x3 x4 x5 x6 x7 x8) := by
  unfold X12_writeChanges_125 N12_writeChanges_125
  refine sm_gR (k := 7) (by decide) rfl ?_
  refine sm_aI fun v1 => ?_
  refine sm_wc (t_X12_writeSign v1) fun _ => ?_
  refine sm_wc (t_X12_writeNumber x6) fun _ => ?_
  refine sm_ite ?_ ?_
  · exact t_X12_writeChanges_172 _ hk6 _ hk15 _ hk45 x1 x3 x4 x5 x6 x7 x8
  · refine sm_wc (t_X12_write (43 : Int32)) fun _ => ?_
    refine sm_gR (k := 10) (by decide) rfl ?_
    refine sm_aI fun v2 => ?_
    refine sm_wc (t_X12_writeNumber v2) fun _ => ?_
    exact t_X12_writeChanges_172 _ hk6 _ hk15 _ hk45 x1 x3 x4 x5 x6 x7 x8
theorem t_X12_writeChanges_122 {m : Nat} {rf : Nat → Option Nat} {k6 : Int32 → Int32 → Int32 → Int32 → NM Unit} (K6 : Nat → Int32 → Int32 → Int32 → Int32 → MM Unit) (hk6 : ∀ (x1 : Int32) (x3 : Int32) (x4 : Int32) (x5 : Int32), Sm m rf (K6 m x1 x3 x4 x5) (k6 x1 x3 x4 x5)) {k15 : Int32 → Int32 → Int32 → Int32 → Int32 → NM Unit} (K15 : Nat → Int32 → Int32 → Int32 → Int32 → Int32 → MM Unit) (hk15 : ∀ (x1 : Int32) (x3 : Int32) (x4 : Int32) (x5 : Int32) (x6 : Int32), Sm m rf (K15 m x1 x3 x4 x5 x6) (k15 x1 x3 x4 x5 x6)) {k45 : Int32 → Int32 → Int32 → Int32 → Int32 → Int32 → Int32 → NM Unit} (K45 : Nat → Int32 → Int32 → Int32 → Int32 → Int32 → Int32 → Int32 → MM Unit) (hk45 : ∀ (x1 : Int32) (x3 : Int32) (x4 : Int32) (x5 : Int32) (x6 : Int32) (x7 : Int32) (x8 : Int32), Sm m rf (K45 m x1 x3 x4 x5 x6 x7 x8) (k45 x1 x3 x4 x5 x6 x7 x8)) (x1 : Int32) (x3 : Int32) (x4 : Int32) (x5 : Int32) (x6 : Int32) (x7 : Int32) (x8 : Int32) (y0 : Int32) : Sm m rf (X12_writeChanges_122 K6 K15 K45 m x1 x3 x4 x5 x6 x7 x8 y0) (N12_writeChanges_122 k6 k15 k45 x1 x3 x4 x5 x6 x7 x8 y0) := by
  unfold X12_writeChanges_122 N12_writeChanges_122
  refine sm_wc (t_X12_write y0) fun _ => ?_
  exact t_X12_writeChanges_125 _ hk6 _ hk15 _ hk45 x1 x3 x4 x5 x6 x7 x8
theorem t_X12_writeChanges_92 {m : Nat} {rf : Nat → Option Nat} {k6 : Int32 → Int32 → Int32 → Int32 → NM Unit} (K6 : Nat → Int32 → Int32 → Int32 → Int32 → MM Unit) (hk6 : ∀ (x1 : Int32) (x3 : Int32) (x4 : Int32) (x5 : Int32), Sm m rf (K6 m x1 x3 x4 x5) (k6 x1 x3 x4 x5)) {k15 : Int32 → Int32 → Int32 → Int32 → Int32 → NM Unit} (K15 : Nat → Int32 → Int32 → Int32 → Int32 → Int32 → MM Unit) (hk15 : ∀ (x1 : Int32) (x3 : Int32) (x4 : Int32) (x5 : Int32) (x6 : Int32), Sm m rf (K15 m x1 x3 x4 x5 x6) (k15 x1 x3 x4 x5 x6)) {k45 : Int32 → Int32 → Int32 → Int32 → Int32 → Int32 → Int32 → NM Unit} (K45 : Nat → Int32 → Int32 → Int32 → Int32 → Int32 → Int32 → Int32 → MM Unit) (hk45 : ∀ (x1 : Int32) (x3 : Int32) (x4 : Int32) (x5 : Int32) (x6 : Int32) (x7 : Int32) (x8 : Int32), Sm m rf (K45 m x1 x3 x4 x5 x6 x7 x8) (k45 x1 x3 x4 x5 x6 x7 x8)) (x1 : Int32) (x3 : Int32) (x5 : Int32) (x6 : Int32) (x7 : Int32) (x8 : Int32) (y0 : Int32) : Sm m rf (X12_writeChanges_92 K6 K15 K45 m x1 x3 x5 x6 x7 x8 y0) (N12_writeChanges_92 k6 k15 k45 x1 x3 x5 x6 x7 x8 y0) := by
  unfold X12_writeChanges_92 N12_writeChanges_92
  refine sm_wc (t_X12_write y0) fun _ => ?_
  refine sm_ite ?_ ?_
  · refine sm_gR (k := 9) (by decide) rfl ?_
    refine sm_aI fun v1 => ?_
    refine sm_ite ?_ ?_
    · exact t_X12_writeChanges_122 _ hk6 _ hk15 _ hk45 x1 x3 (1 : Int32) x5 x6 x7 x8 (45 : Int32)
    · exact t_X12_writeChanges_122 _ hk6 _ hk15 _ hk45 x1 x3 (1 : Int32) x5 x6 x7 x8 (61 : Int32)
  · exact t_X12_writeChanges_125 _ hk6 _ hk15 _ hk45 x1 x3 (1 : Int32) x5 x6 x7 x8
theorem t_X12_writeChanges_73 {m : Nat} {rf : Nat → Option Nat} {k6 : Int32 → Int32 → Int32 → Int32 → NM Unit} (K6 : Nat → Int32 → Int32 → Int32 → Int32 → MM Unit) (hk6 : ∀ (x1 : Int32) (x3 : Int32) (x4 : Int32) (x5 : Int32), Sm m rf (K6 m x1 x3 x4 x5) (k6 x1 x3 x4 x5)) {k15 : Int32 → Int32 → Int32 → Int32 → Int32 → NM Unit} (K15 : Nat → Int32 → Int32 → Int32 → Int32 → Int32 → MM Unit) (hk15 : ∀ (x1 : Int32) (x3 : Int32) (x4 : Int32) (x5 : Int32) (x6 : Int32), Sm m rf (K15 m x1 x3 x4 x5 x6) (k15 x1 x3 x4 x5 x6)) {k45 : Int32 → Int32 → Int32 → Int32 → Int32 → Int32 → Int32 → NM Unit} (K45 : Nat → Int32 → Int32 → Int32 → Int32 → Int32 → Int32 → Int32 → MM Unit) (hk45 : ∀ (x1 : Int32) (x3 : Int32) (x4 : Int32) (x5 : Int32) (x6 : Int32) (x7 : Int32) (x8 : Int32), Sm m rf (K45 m x1 x3 x4 x5 x6 x7 x8) (k45 x1 x3 x4 x5 x6 x7 x8)) (x1 : Int32) (x3 : Int32) (x4 : Int32) (x5 : Int32) (x6 : Int32) (x7 : Int32) (x8 : Int32) (y0 : Int32) : Sm m rf (X12_writeChanges_73 K6 K15 K45 m x1 x3 x4 x5 x6 x7 x8 y0) (N12_writeChanges_73 k6 k15 k45 x1 x3 x4 x5 x6 x7 x8 y0) := by
  unfold X12_writeChanges_73 N12_writeChanges_73
  refine sm_ite ?_ ?_
  · exact t_X12_writeChanges_172 _ hk6 _ hk15 _ hk45 x1 x3 x4 x5 x6 x7 x8
  · refine sm_ite ?_ ?_
    · exact t_X12_writeChanges_92 _ hk6 _ hk15 _ hk45 x1 x3 x5 x6 x7 x8 (40 : Int32)
    · exact t_X12_writeChanges_92 _ hk6 _ hk15 _ hk45 x1 x3 x5 x6 x7 x8 (44 : Int32)
theorem t_X12_writeChanges_178 {m : Nat} {rf : Nat → Option Nat} {k6 : Int32 → Int32 → Int32 → Int32 → NM Unit} (K6 : Nat → Int32 → Int32 → Int32 → Int32 → MM Unit) (hk6 : ∀ (x1 : Int32) (x3 : Int32) (x4 : Int32) (x5 : Int32), Sm m rf (K6 m x1 x3 x4 x5) (k6 x1 x3 x4 x5)) {k15 : Int32 → Int32 → Int32 → Int32 → Int32 → NM Unit} (K15 : Nat → Int32 → Int32 → Int32 → Int32 → Int32 → MM Unit) (hk15 : ∀ (x1 : Int32) (x3 : Int32) (x4 : Int32) (x5 : Int32) (x6 : Int32), Sm m rf (K15 m x1 x3 x4 x5 x6) (k15 x1 x3 x4 x5 x6)) (x1 : Int32) (x3 : Int32) (x4 : Int32) (x5 : Int32) (x6 : Int32) : Sm m rf (X12_writeChanges_178 K6 K15 m x1 x3 x4 x5 x6) (N12_writeChanges_178 k6 k15 x1 x3 x4 x5 x6) := by
  unfold X12_writeChanges_178 N12_writeChanges_178
  exact hk15 x1 x3 x4 x5 (x6 + (1 : Int32))
theorem t_X12_writeChanges_45_st {m : Nat} {rf : Nat → Option Nat} {k6 : Int32 → Int32 → Int32 → Int32 → NM Unit} (K6 : Nat → Int32 → Int32 → Int32 → Int32 → MM Unit) (hk6 : ∀ (x1 : Int32) (x3 : Int32) (x4 : Int32) (x5 : Int32), Sm m rf (K6 m x1 x3 x4 x5) (k6 x1 x3 x4 x5)) {k15 : Int32 → Int32 → Int32 → Int32 → Int32 → NM Unit} (K15 : Nat → Int32 → Int32 → Int32 → Int32 → Int32 → MM Unit) (hk15 : ∀ (x1 : Int32) (x3 : Int32) (x4 : Int32) (x5 : Int32) (x6 : Int32), Sm m rf (K15 m x1 x3 x4 x5 x6) (k15 x1 x3 x4 x5 x6)) {k45 : Int32 → Int32 → Int32 → Int32 → Int32 → Int32 → Int32 → NM Unit} (K45 : Nat → Int32 → Int32 → Int32 → Int32 → Int32 → Int32 → Int32 → MM Unit) (hk45 : ∀ (x1 : Int32) (x3 : Int32) (x4 : Int32) (x5 : Int32) (x6 : Int32) (x7 : Int32) (x8 : Int32), Sm m rf (K45 m x1 x3 x4 x5 x6 x7 x8) (k45 x1 x3 x4 x5 x6 x7 x8)) (x1 : Int32) (x3 : Int32) (x4 : Int32) (x5 : Int32) (x6 : Int32) (x7 : Int32) (x8 : Int32) : Sm m rf (X12_writeChanges_45_st K6 K15 K45 m x1 x3 x4 x5 x6 x7 x8) (N12_writeChanges_45_st k6 k15 k45 x1 x3 x4 x5 x6 x7 x8) := by
  unfold X12_writeChanges_45_st N12_writeChanges_45_st
  refine sm_ite ?_ ?_
  · exact t_X12_writeChanges_178 _ hk6 _ hk15 x1 x3 x4 x5 x6
  · refine sm_ite ?_ ?_
    · refine sm_gR (k := 9) (by decide) rfl ?_
      refine sm_aI fun v1 => ?_
      exact t_X12_writeChanges_73 _ hk6 _ hk15 _ hk45 x1 x3 x4 x5 x6 x7 x8 v1
    · refine sm_gR (k := 10) (by decide) rfl ?_
      refine sm_aI fun v2 => ?_
      exact t_X12_writeChanges_73 _ hk6 _ hk15 _ hk45 x1 x3 x4 x5 x6 x7 x8 v2
theorem t_X12_writeChanges_45 {m : Nat} {rf : Nat → Option Nat} {k6 : Int32 → Int32 → Int32 → Int32 → NM Unit} (K6 : Nat → Int32 → Int32 → Int32 → Int32 → MM Unit) (hk6 : ∀ (x1 : Int32) (x3 : Int32) (x4 : Int32) (x5 : Int32), Sm m rf (K6 m x1 x3 x4 x5) (k6 x1 x3 x4 x5)) {k15 : Int32 → Int32 → Int32 → Int32 → Int32 → NM Unit} (K15 : Nat → Int32 → Int32 → Int32 → Int32 → Int32 → MM Unit) (hk15 : ∀ (x1 : Int32) (x3 : Int32) (x4 : Int32) (x5 : Int32) (x6 : Int32), Sm m rf (K15 m x1 x3 x4 x5 x6) (k15 x1 x3 x4 x5 x6)) : ∀ (n : Nat) (x1 : Int32) (x3 : Int32) (x4 : Int32) (x5 : Int32) (x6 : Int32) (x7 : Int32) (x8 : Int32), Sm m rf (X12_writeChanges_45 K6 K15 n m x1 x3 x4 x5 x6 x7 x8) (N12_writeChanges_45 k6 k15 n x1 x3 x4 x5 x6 x7 x8) := by
  intro n
  induction n with
  | zero => intro x1 x3 x4 x5 x6 x7 x8; exact sm_mf
  | succ n ih => intro x1 x3 x4 x5 x6 x7 x8; exact t_X12_writeChanges_45_st _ hk6 _ hk15 _ ih x1 x3 x4 x5 x6 x7 x8
theorem t_X12_writeChanges_184 {m : Nat} {rf : Nat → Option Nat} {k6 : Int32 → Int32 → Int32 → Int32 → NM Unit} (K6 : Nat → Int32 → Int32 → Int32 → Int32 → MM Unit) (hk6 : ∀ (x1 : Int32) (x3 : Int32) (x4 : Int32) (x5 : Int32), Sm m rf (K6 m x1 x3 x4 x5) (k6 x1 x3 x4 x5)) (x1 : Int32) (x3 : Int32) (x4 : Int32) (x5 : Int32) : Sm m rf (X12_writeChanges_184 K6 m x1 x3 x4 x5) (N12_writeChanges_184 k6 x1 x3 x4 x5) := by
  unfold X12_writeChanges_184 N12_writeChanges_184
  exact hk6 x1 x3 x4 (x5 + (1 : Int32))
theorem t_X12_writeChanges_15_st {m : Nat} {rf : Nat → Option Nat} {k6 : Int32 → Int32 → Int32 → Int32 → NM Unit} (K6 : Nat → Int32 → Int32 → Int32 → Int32 → MM Unit) (hk6 : ∀ (x1 : Int32) (x3 : Int32) (x4 : Int32) (x5 : Int32), Sm m rf (K6 m x1 x3 x4 x5) (k6 x1 x3 x4 x5)) {k15 : Int32 → Int32 → Int32 → Int32 → Int32 → NM Unit} (K15 : Nat → Int32 → Int32 → Int32 → Int32 → Int32 → MM Unit) (hk15 : ∀ (x1 : Int32) (x3 : Int32) (x4 : Int32) (x5 : Int32) (x6 : Int32), Sm m rf (K15 m x1 x3 x4 x5 x6) (k15 x1 x3 x4 x5 x6)) (x1 : Int32) (x3 : Int32) (x4 : Int32) (x5 : Int32) (x6 : Int32) : Sm m rf (X12_writeChanges_15_st K6 K15 m x1 x3 x4 x5 x6) (N12_writeChanges_15_st k6 k15 x1 x3 x4 x5 x6) := by
  unfold X12_writeChanges_15_st N12_writeChanges_15_st
  refine sm_gR (k := 8) (by decide) rfl ?_
  refine sm_aI fun v1 => ?_
  refine sm_ite ?_ ?_
  · exact t_X12_writeChanges_184 _ hk6 x1 x3 x4 x5
  · refine sm_cal (t_X12_spot x1 x5 x6) fun v2 => ?_
    exact t_X12_writeChanges_45 _ hk6 _ hk15 LFU x1 x3 x4 x5 x6 v2 (0 : Int32)
theorem t_X12_writeChanges_15 {m : Nat} {rf : Nat → Option Nat} {k6 : Int32 → Int32 → Int32 → Int32 → NM Unit} (K6 : Nat → Int32 → Int32 → Int32 → Int32 → MM Unit) (hk6 : ∀ (x1 : Int32) (x3 : Int32) (x4 : Int32) (x5 : Int32), Sm m rf (K6 m x1 x3 x4 x5) (k6 x1 x3 x4 x5)) : ∀ (n : Nat) (x1 : Int32) (x3 : Int32) (x4 : Int32) (x5 : Int32) (x6 : Int32), Sm m rf (X12_writeChanges_15 K6 n m x1 x3 x4 x5 x6) (N12_writeChanges_15 k6 n x1 x3 x4 x5 x6) := by
  intro n
  induction n with
  | zero => intro x1 x3 x4 x5 x6; exact sm_mf
  | succ n ih => intro x1 x3 x4 x5 x6; exact t_X12_writeChanges_15_st _ hk6 _ ih x1 x3 x4 x5 x6
theorem t_X12_writeChanges_190 {m : Nat} {rf : Nat → Option Nat} (x4 : Int32) : Sm m rf (X12_writeChanges_190  m x4) (N12_writeChanges_190  x4) := by
  unfold X12_writeChanges_190 N12_writeChanges_190
  refine sm_ite ?_ ?_
  · exact sm_ret
  · refine sm_wc (t_X12_write (41 : Int32)) fun _ => ?_
    exact sm_ret
theorem t_X12_writeChanges_6_st {m : Nat} {rf : Nat → Option Nat} {k6 : Int32 → Int32 → Int32 → Int32 → NM Unit} (K6 : Nat → Int32 → Int32 → Int32 → Int32 → MM Unit) (hk6 : ∀ (x1 : Int32) (x3 : Int32) (x4 : Int32) (x5 : Int32), Sm m rf (K6 m x1 x3 x4 x5) (k6 x1 x3 x4 x5)) (x1 : Int32) (x3 : Int32) (x4 : Int32) (x5 : Int32) : Sm m rf (X12_writeChanges_6_st  K6 m x1 x3 x4 x5) (N12_writeChanges_6_st  k6 x1 x3 x4 x5) := by
  unfold X12_writeChanges_6_st N12_writeChanges_6_st
  refine sm_ite ?_ ?_
  · exact t_X12_writeChanges_190  x4
  · exact t_X12_writeChanges_15 _ hk6 LFU x1 x3 x4 x5 (1 : Int32)
theorem t_X12_writeChanges_6 {m : Nat} {rf : Nat → Option Nat} : ∀ (n : Nat) (x1 : Int32) (x3 : Int32) (x4 : Int32) (x5 : Int32), Sm m rf (X12_writeChanges_6  n m x1 x3 x4 x5) (N12_writeChanges_6  n x1 x3 x4 x5) := by
  intro n
  induction n with
  | zero => intro x1 x3 x4 x5; exact sm_mf
  | succ n ih => intro x1 x3 x4 x5; exact t_X12_writeChanges_6_st  _ ih x1 x3 x4 x5
theorem t_X12_writeChanges {m : Nat} {rf : Nat → Option Nat} (a1 : Int32) (a2 : Int32) (a3 : Int32) : Sm m rf (X12_writeChanges m a1 a2 a3) (N12_writeChanges a1 a2 a3) := by
  unfold X12_writeChanges N12_writeChanges
  exact t_X12_writeChanges_6  LFU a1 a3 (0 : Int32) a2
def N12_writeBook_169 (k7 : Int32 → Int32 → NM Unit) (x1 : Int32) (x2 : Int32) (x3 : Int32) (x4 : Int32) : NM Unit :=
  nb (naI 8 (x3 + x2)) fun v1 =>
  nb (N12_writeNumber v1) fun _ =>
  nb (N12_writeChanges x1 x2 x4) fun _ =>
  (k7 x1 (x4 + (1 : Int32)))
def N12_writeBook_132 (k7 : Int32 → Int32 → NM Unit) (x1 : Int32) (x2 : Int32) (x3 : Int32) (x4 : Int32) : NM Unit :=
  nb (naI 7 (x3 + x2)) fun v1 =>
  nb (N12_writeSign v1) fun _ =>
  if x4 ≤ x2 then ((N12_writeBook_169 k7 x1 x2 x3 x4)) else (nb (N12_write (45 : Int32)) fun _ =>
  nb (naI 7 (x3 + x4)) fun v2 =>
  nb (N12_writeSign v2) fun _ =>
  (N12_writeBook_169 k7 x1 x2 x3 x4))
def N12_writeBook_122 (k7 : Int32 → Int32 → NM Unit) (x1 : Int32) (x2 : Int32) (x3 : Int32) (x4 : Int32) : NM Unit :=
  if x2 ≤ 0 then ((N12_writeBook_132 k7 x1 x2 x3 x4)) else (nb (N12_write (32 : Int32)) fun _ =>
  (N12_writeBook_132 k7 x1 x2 x3 x4))
def N12_writeBook_25_st (k7 : Int32 → Int32 → NM Unit) (k25 : Int32 → Int32 → Int32 → Int32 → NM Unit) (x1 : Int32) (x2 : Int32) (x3 : Int32) (x4 : Int32) : NM Unit :=
  nb (naI 6 x1) fun v1 =>
  if v1 ≤ (x4 + (1 : Int32)) then ((N12_writeBook_122 k7 x1 x2 x3 x4)) else (nb (naI 7 (x3 + x2)) fun v2 =>
  nb (N12_isLetters v2) fun v3 =>
  if v3 = 0 then ((N12_writeBook_122 k7 x1 x2 x3 x4)) else (nb (naI 7 ((x3 + x4) + (1 : Int32))) fun v4 =>
  nb (N12_isLetters v4) fun v5 =>
  if v5 = 0 then ((N12_writeBook_122 k7 x1 x2 x3 x4)) else (nb (naI 7 ((x3 + x4) + (1 : Int32))) fun v6 =>
  nb (naI 7 (x3 + x4)) fun v7 =>
  if v6 = (v7 + (1 : Int32)) then (nb (naI 8 ((x3 + x4) + (1 : Int32))) fun v8 =>
  nb (naI 8 (x3 + x2)) fun v9 =>
  if v8 = v9 then ((k25 x1 x2 x3 (x4 + (1 : Int32)))) else ((N12_writeBook_122 k7 x1 x2 x3 x4))) else ((N12_writeBook_122 k7 x1 x2 x3 x4)))))
def N12_writeBook_25 (k7 : Int32 → Int32 → NM Unit) : Nat → Int32 → Int32 → Int32 → Int32 → NM Unit
  | 0 => fun _ _ _ _ => nf
  | n + 1 => fun x1 x2 x3 x4 => N12_writeBook_25_st k7 (N12_writeBook_25 k7 n) x1 x2 x3 x4
def N12_writeBook_7_st  (k7 : Int32 → Int32 → NM Unit) (x1 : Int32) (x2 : Int32) : NM Unit :=
  nb (naI 6 x1) fun v1 =>
  if v1 ≤ x2 then (nr ()) else ((N12_writeBook_25 k7 LFU x1 x2 (x1 * (71 : Int32)) x2))
def N12_writeBook_7  : Nat → Int32 → Int32 → NM Unit
  | 0 => fun _ _ => nf
  | n + 1 => fun x1 x2 => N12_writeBook_7_st  (N12_writeBook_7  n) x1 x2
def N12_writeBook (a1 : Int32) : NM Unit :=
  nb (npI 37 (0 : Int32)) fun _ =>
  (N12_writeBook_7  LFU a1 (0 : Int32))
theorem t_X12_writeBook_169 {m : Nat} {rf : Nat → Option Nat} {k7 : Int32 → Int32 → NM Unit} (K7 : Nat → Int32 → Int32 → MM Unit) (hk7 : ∀ (x1 : Int32) (x2 : Int32), Sm m rf (K7 m x1 x2) (k7 x1 x2)) (x1 : Int32) (x2 : Int32) (x3 : Int32) (x4 : Int32) : Sm m rf (X12_writeBook_169 K7 m x1 x2 x3 x4) (N12_writeBook_169 k7 x1 x2 x3 x4) := by
  unfold X12_writeBook_169 N12_writeBook_169
  refine sm_gR (k := 8) (by decide) rfl ?_
  refine sm_aI fun v1 => ?_
  refine sm_wc (t_X12_writeNumber v1) fun _ => ?_
  refine sm_wc (t_X12_writeChanges x1 x2 x4) fun _ => ?_
  exact hk7 x1 (x4 + (1 : Int32))
theorem t_X12_writeBook_132 {m : Nat} {rf : Nat → Option Nat} {k7 : Int32 → Int32 → NM Unit} (K7 : Nat → Int32 → Int32 → MM Unit) (hk7 : ∀ (x1 : Int32) (x2 : Int32), Sm m rf (K7 m x1 x2) (k7 x1 x2)) (x1 : Int32) (x2 : Int32) (x3 : Int32) (x4 : Int32) : Sm m rf (X12_writeBook_132 K7 m x1 x2 x3 x4) (N12_writeBook_132 k7 x1 x2 x3 x4) := by
  unfold X12_writeBook_132 N12_writeBook_132
  refine sm_gR (k := 7) (by decide) rfl ?_
  refine sm_aI fun v1 => ?_
  refine sm_wc (t_X12_writeSign v1) fun _ => ?_
  refine sm_ite ?_ ?_
  · exact t_X12_writeBook_169 _ hk7 x1 x2 x3 x4
  · refine sm_wc (t_X12_write (45 : Int32)) fun _ => ?_
    refine sm_gR (k := 7) (by decide) rfl ?_
    refine sm_aI fun v2 => ?_
    refine sm_wc (t_X12_writeSign v2) fun _ => ?_
    exact t_X12_writeBook_169 _ hk7 x1 x2 x3 x4
theorem t_X12_writeBook_122 {m : Nat} {rf : Nat → Option Nat} {k7 : Int32 → Int32 → NM Unit} (K7 : Nat → Int32 → Int32 → MM Unit) (hk7 : ∀ (x1 : Int32) (x2 : Int32), Sm m rf (K7 m x1 x2) (k7 x1 x2)) (x1 : Int32) (x2 : Int32) (x3 : Int32) (x4 : Int32) : Sm m rf (X12_writeBook_122 K7 m x1 x2 x3 x4) (N12_writeBook_122 k7 x1 x2 x3 x4) := by
  unfold X12_writeBook_122 N12_writeBook_122
  refine sm_ite ?_ ?_
  · exact t_X12_writeBook_132 _ hk7 x1 x2 x3 x4
  · refine sm_wc (t_X12_write (32 : Int32)) fun _ => ?_
    exact t_X12_writeBook_132 _ hk7 x1 x2 x3 x4
theorem t_X12_writeBook_25_st {m : Nat} {rf : Nat → Option Nat} {k7 : Int32 → Int32 → NM Unit} (K7 : Nat → Int32 → Int32 → MM Unit) (hk7 : ∀ (x1 : Int32) (x2 : Int32), Sm m rf (K7 m x1 x2) (k7 x1 x2)) {k25 : Int32 → Int32 → Int32 → Int32 → NM Unit} (K25 : Nat → Int32 → Int32 → Int32 → Int32 → MM Unit) (hk25 : ∀ (x1 : Int32) (x2 : Int32) (x3 : Int32) (x4 : Int32), Sm m rf (K25 m x1 x2 x3 x4) (k25 x1 x2 x3 x4)) (x1 : Int32) (x2 : Int32) (x3 : Int32) (x4 : Int32) : Sm m rf (X12_writeBook_25_st K7 K25 m x1 x2 x3 x4) (N12_writeBook_25_st k7 k25 x1 x2 x3 x4) := by
  unfold X12_writeBook_25_st N12_writeBook_25_st
  refine sm_gR (k := 6) (by decide) rfl ?_
  refine sm_aI fun v1 => ?_
  refine sm_ite ?_ ?_
  · exact t_X12_writeBook_122 _ hk7 x1 x2 x3 x4
  · refine sm_gR (k := 7) (by decide) rfl ?_
    refine sm_aI fun v2 => ?_
    refine sm_cal (t_X12_isLetters v2) fun v3 => ?_
    refine sm_ite ?_ ?_
    · exact t_X12_writeBook_122 _ hk7 x1 x2 x3 x4
    · refine sm_gR (k := 7) (by decide) rfl ?_
      refine sm_aI fun v4 => ?_
      refine sm_cal (t_X12_isLetters v4) fun v5 => ?_
      refine sm_ite ?_ ?_
      · exact t_X12_writeBook_122 _ hk7 x1 x2 x3 x4
      · refine sm_gR (k := 7) (by decide) rfl ?_
        refine sm_aI fun v6 => ?_
        refine sm_gR (k := 7) (by decide) rfl ?_
        refine sm_aI fun v7 => ?_
        refine sm_ite ?_ ?_
        · refine sm_gR (k := 8) (by decide) rfl ?_
          refine sm_aI fun v8 => ?_
          refine sm_gR (k := 8) (by decide) rfl ?_
          refine sm_aI fun v9 => ?_
          refine sm_ite ?_ ?_
          · exact hk25 x1 x2 x3 (x4 + (1 : Int32))
          · exact t_X12_writeBook_122 _ hk7 x1 x2 x3 x4
        · exact t_X12_writeBook_122 _ hk7 x1 x2 x3 x4
theorem t_X12_writeBook_25 {m : Nat} {rf : Nat → Option Nat} {k7 : Int32 → Int32 → NM Unit} (K7 : Nat → Int32 → Int32 → MM Unit) (hk7 : ∀ (x1 : Int32) (x2 : Int32), Sm m rf (K7 m x1 x2) (k7 x1 x2)) : ∀ (n : Nat) (x1 : Int32) (x2 : Int32) (x3 : Int32) (x4 : Int32), Sm m rf (X12_writeBook_25 K7 n m x1 x2 x3 x4) (N12_writeBook_25 k7 n x1 x2 x3 x4) := by
  intro n
  induction n with
  | zero => intro x1 x2 x3 x4; exact sm_mf
  | succ n ih => intro x1 x2 x3 x4; exact t_X12_writeBook_25_st _ hk7 _ ih x1 x2 x3 x4
theorem t_X12_writeBook_7_st {m : Nat} {rf : Nat → Option Nat} {k7 : Int32 → Int32 → NM Unit} (K7 : Nat → Int32 → Int32 → MM Unit) (hk7 : ∀ (x1 : Int32) (x2 : Int32), Sm m rf (K7 m x1 x2) (k7 x1 x2)) (x1 : Int32) (x2 : Int32) : Sm m rf (X12_writeBook_7_st  K7 m x1 x2) (N12_writeBook_7_st  k7 x1 x2) := by
  unfold X12_writeBook_7_st N12_writeBook_7_st
  refine sm_gR (k := 6) (by decide) rfl ?_
  refine sm_aI fun v1 => ?_
  refine sm_ite ?_ ?_
  · exact sm_ret
  · exact t_X12_writeBook_25 _ hk7 LFU x1 x2 (x1 * (71 : Int32)) x2
theorem t_X12_writeBook_7 {m : Nat} {rf : Nat → Option Nat} : ∀ (n : Nat) (x1 : Int32) (x2 : Int32), Sm m rf (X12_writeBook_7  n m x1 x2) (N12_writeBook_7  n x1 x2) := by
  intro n
  induction n with
  | zero => intro x1 x2; exact sm_mf
  | succ n ih => intro x1 x2; exact t_X12_writeBook_7_st  _ ih x1 x2
theorem t_X12_writeBook {m : Nat} {rf : Nat → Option Nat} (a1 : Int32) : Sm m rf (X12_writeBook m a1) (N12_writeBook a1) := by
  unfold X12_writeBook N12_writeBook
  refine sm_pI (k := 37) (by decide) rfl ?_
  exact t_X12_writeBook_7  LFU a1 (0 : Int32)
def N12_writeName (a1 : Int32) (a2 : Int32) : NM Unit :=
  nb (naI 12 ((a1 * (400 : Int32)) + a2)) fun v1 =>
  nb (naI 7 ((a1 * (71 : Int32)) + v1)) fun v2 =>
  nb (N12_writeSign v2) fun _ =>
  nb (naI 13 ((a1 * (400 : Int32)) + a2)) fun v3 =>
  nb (N12_writeNumber v3) fun _ =>
  nb (naI 14 ((a1 * (400 : Int32)) + a2)) fun v4 =>
  if v4 = 0 then (nr ()) else (nb (N12_write (43 : Int32)) fun _ =>
  nb (naI 14 ((a1 * (400 : Int32)) + a2)) fun v5 =>
  nb (N12_writeNumber v5) fun _ =>
  nr ())
theorem t_X12_writeName {m : Nat} {rf : Nat → Option Nat} (a1 : Int32) (a2 : Int32) : Sm m rf (X12_writeName m a1 a2) (N12_writeName a1 a2) := by
  unfold X12_writeName N12_writeName
  refine sm_gR (k := 7) (by decide) rfl ?_
  refine sm_gR (k := 12) (by decide) rfl ?_
  refine sm_aI fun v1 => ?_
  refine sm_aI fun v2 => ?_
  refine sm_wc (t_X12_writeSign v2) fun _ => ?_
  refine sm_gR (k := 13) (by decide) rfl ?_
  refine sm_aI fun v3 => ?_
  refine sm_wc (t_X12_writeNumber v3) fun _ => ?_
  refine sm_gR (k := 14) (by decide) rfl ?_
  refine sm_aI fun v4 => ?_
  refine sm_ite ?_ ?_
  · exact sm_ret
  · refine sm_wc (t_X12_write (43 : Int32)) fun _ => ?_
    refine sm_gR (k := 14) (by decide) rfl ?_
    refine sm_aI fun v5 => ?_
    refine sm_wc (t_X12_writeNumber v5) fun _ => ?_
    exact sm_ret
def N12_tell (a1 : Int32) : NM Int32 :=
  nb (ngI 37) fun v1 =>
  nb (N12_isIn a1 (0 : Int32) (v1 - (1 : Int32))) fun v2 =>
  if v2 = 0 then (nb (N12_no (1 : Int32)) fun v3 =>
  nr v3) else (nb (naI 36 a1) fun v4 =>
  nb (N12_fine v4) fun v5 =>
  nr v5)
theorem t_X12_tell {m : Nat} {rf : Nat → Option Nat} (a1 : Int32) : Sm m rf (X12_tell m a1) (N12_tell a1) := by
  unfold X12_tell N12_tell
  refine sm_gI (k := 37) (by decide) rfl fun v1 => ?_
  refine sm_cal (t_X12_isIn a1 (0 : Int32) (v1 - (1 : Int32))) fun v2 => ?_
  refine sm_ite ?_ ?_
  · refine sm_wc (t_X12_no (1 : Int32)) fun v3 => ?_
    exact sm_ret
  · refine sm_gR (k := 36) (by decide) rfl ?_
    refine sm_aI fun v4 => ?_
    refine sm_wc (t_X12_fine v4) fun v5 => ?_
    exact sm_ret
def N12_isFormat (a0 : Int32) : NM Int32 :=
  if a0 = (2 : Int32) then (nr (1 : Int32)) else (if a0 = (4 : Int32) then (nr (1 : Int32)) else (if a0 = (8 : Int32) then (nr (1 : Int32)) else (nr (0 : Int32))))
theorem t_X12_isFormat {m : Nat} {rf : Nat → Option Nat} (a0 : Int32) : Sm m rf (X12_isFormat a0) (N12_isFormat a0) := by
  unfold X12_isFormat N12_isFormat
  refine sm_ite ?_ ?_
  · exact sm_ret
  · refine sm_ite ?_ ?_
    · exact sm_ret
    · refine sm_ite ?_ ?_
      · exact sm_ret
      · exact sm_ret
def N12_sheetOf (a0 : Int32) (a1 : Int32) (a2 : Int32) : NM Int32 :=
  nb (ndI a2 (2 : Int32)) fun v2 =>
  nb (ndI (if (a0 - a1) < (a1 - (1 : Int32)) then (a0 - a1) else (a1 - (1 : Int32))) v2) fun v3 =>
  nr v3
theorem t_X12_sheetOf {m : Nat} {rf : Nat → Option Nat} (a0 : Int32) (a1 : Int32) (a2 : Int32) : Sm m rf (X12_sheetOf a0 a1 a2) (N12_sheetOf a0 a1 a2) := by
  unfold X12_sheetOf N12_sheetOf
  refine sm_dI fun v2 => ?_
  refine sm_dI fun v3 => ?_
  exact sm_ret
def N12_sheetsOf (a0 : Int32) (a1 : Int32) : NM Int32 :=
  nb (ndI (a0 + (1 : Int32)) (2 : Int32)) fun v1 =>
  nb (N12_sheetOf a0 v1 a1) fun v2 =>
  nr (v2 + (1 : Int32))
theorem t_X12_sheetsOf {m : Nat} {rf : Nat → Option Nat} (a0 : Int32) (a1 : Int32) : Sm m rf (X12_sheetsOf a0 a1) (N12_sheetsOf a0 a1) := by
  unfold X12_sheetsOf N12_sheetsOf
  refine sm_dI fun v1 => ?_
  refine sm_cal (t_X12_sheetOf a0 v1 a1) fun v2 => ?_
  exact sm_ret
def N12_numberOn_33 (k5 : Int32 → Int32 → Int32 → Int32 → Int32 → NM Int32) (x0 : Int32) (x1 : Int32) (x2 : Int32) (x4 : Int32) (y0 : Int32) (y1 : Int32) : NM Int32 :=
  (k5 x0 x1 x2 (y1 + y0) (x4 + (1 : Int32)))
def N12_numberOn_5_st  (k5 : Int32 → Int32 → Int32 → Int32 → Int32 → NM Int32) (x0 : Int32) (x1 : Int32) (x2 : Int32) (x3 : Int32) (x4 : Int32) : NM Int32 :=
  if x1 < x4 then (nr x3) else (nb (N12_sheetOf x0 x4 x2) fun v1 =>
  nb (N12_sheetOf x0 x1 x2) fun v2 =>
  if v1 = v2 then ((N12_numberOn_33 k5 x0 x1 x2 x4 (1 : Int32) x3)) else ((N12_numberOn_33 k5 x0 x1 x2 x4 (0 : Int32) x3)))
def N12_numberOn_5  : Nat → Int32 → Int32 → Int32 → Int32 → Int32 → NM Int32
  | 0 => fun _ _ _ _ _ => nf
  | n + 1 => fun x0 x1 x2 x3 x4 => N12_numberOn_5_st  (N12_numberOn_5  n) x0 x1 x2 x3 x4
def N12_numberOn (a0 : Int32) (a1 : Int32) (a2 : Int32) : NM Int32 :=
  (N12_numberOn_5  LFU a0 a1 a2 (0 : Int32) (1 : Int32))
theorem t_X12_numberOn_33 {m : Nat} {rf : Nat → Option Nat} {k5 : Int32 → Int32 → Int32 → Int32 → Int32 → NM Int32} (K5 : Int32 → Int32 → Int32 → Int32 → Int32 → MM Int32) (hk5 : ∀ (x0 : Int32) (x1 : Int32) (x2 : Int32) (x3 : Int32) (x4 : Int32), Sm m rf (K5 x0 x1 x2 x3 x4) (k5 x0 x1 x2 x3 x4)) (x0 : Int32) (x1 : Int32) (x2 : Int32) (x4 : Int32) (y0 : Int32) (y1 : Int32) : Sm m rf (X12_numberOn_33 K5 x0 x1 x2 x4 y0 y1) (N12_numberOn_33 k5 x0 x1 x2 x4 y0 y1) := by
  unfold X12_numberOn_33 N12_numberOn_33
  exact hk5 x0 x1 x2 (y1 + y0) (x4 + (1 : Int32))
theorem t_X12_numberOn_5_st {m : Nat} {rf : Nat → Option Nat} {k5 : Int32 → Int32 → Int32 → Int32 → Int32 → NM Int32} (K5 : Int32 → Int32 → Int32 → Int32 → Int32 → MM Int32) (hk5 : ∀ (x0 : Int32) (x1 : Int32) (x2 : Int32) (x3 : Int32) (x4 : Int32), Sm m rf (K5 x0 x1 x2 x3 x4) (k5 x0 x1 x2 x3 x4)) (x0 : Int32) (x1 : Int32) (x2 : Int32) (x3 : Int32) (x4 : Int32) : Sm m rf (X12_numberOn_5_st  K5 x0 x1 x2 x3 x4) (N12_numberOn_5_st  k5 x0 x1 x2 x3 x4) := by
  unfold X12_numberOn_5_st N12_numberOn_5_st
  refine sm_ite ?_ ?_
  · exact sm_ret
  · refine sm_cal (t_X12_sheetOf x0 x4 x2) fun v1 => ?_
    refine sm_cal (t_X12_sheetOf x0 x1 x2) fun v2 => ?_
    refine sm_ite ?_ ?_
    · exact t_X12_numberOn_33 _ hk5 x0 x1 x2 x4 (1 : Int32) x3
    · exact t_X12_numberOn_33 _ hk5 x0 x1 x2 x4 (0 : Int32) x3
theorem t_X12_numberOn_5 {m : Nat} {rf : Nat → Option Nat} : ∀ (n : Nat) (x0 : Int32) (x1 : Int32) (x2 : Int32) (x3 : Int32) (x4 : Int32), Sm m rf (X12_numberOn_5  n x0 x1 x2 x3 x4) (N12_numberOn_5  n x0 x1 x2 x3 x4) := by
  intro n
  induction n with
  | zero => intro x0 x1 x2 x3 x4; exact sm_mf
  | succ n ih => intro x0 x1 x2 x3 x4; exact t_X12_numberOn_5_st  _ ih x0 x1 x2 x3 x4
theorem t_X12_numberOn {m : Nat} {rf : Nat → Option Nat} (a0 : Int32) (a1 : Int32) (a2 : Int32) : Sm m rf (X12_numberOn a0 a1 a2) (N12_numberOn a0 a1 a2) := by
  unfold X12_numberOn N12_numberOn
  exact t_X12_numberOn_5  LFU a0 a1 a2 (0 : Int32) (1 : Int32)
def N12_look_149 (k54 : Int32 → Int32 → Int32 → Int32 → NM Unit) (k91 : Int32 → Int32 → Int32 → Int32 → Int32 → NM Unit) (x1 : Int32) (x3 : Int32) (x4 : Int32) (x5 : Int32) (x6 : Int32) : NM Unit :=
  (k91 x1 x3 x4 x5 (x6 + (1 : Int32)))
def N12_look_155 (k54 : Int32 → Int32 → Int32 → Int32 → NM Unit) (x1 : Int32) (x3 : Int32) (x4 : Int32) (x5 : Int32) : NM Unit :=
  nb (naI 40 x5) fun v1 =>
  (k54 x1 x3 (if x4 < v1 then v1 else x4) (x5 + (-1 : Int32)))
def N12_look_91_st (k54 : Int32 → Int32 → Int32 → Int32 → NM Unit) (k91 : Int32 → Int32 → Int32 → Int32 → Int32 → NM Unit) (x1 : Int32) (x3 : Int32) (x4 : Int32) (x5 : Int32) (x6 : Int32) : NM Unit :=
  nb (naI 17 x1) fun v1 =>
  if v1 ≤ x6 then ((N12_look_155 k54 x1 x3 x4 x5)) else (nb (naI 18 (x3 + x6)) fun v2 =>
  nb (naI 18 (x3 + x5)) fun v3 =>
  if v2 ≤ v3 then ((N12_look_149 k54 k91 x1 x3 x4 x5 x6)) else (nb (naI 40 x5) fun v4 =>
  nb (naI 40 x6) fun v5 =>
  nb (nsI 40 x5 (if v4 < (v5 + (1 : Int32)) then (v5 + (1 : Int32)) else v4)) fun _ =>
  (N12_look_149 k54 k91 x1 x3 x4 x5 x6)))
def N12_look_91 (k54 : Int32 → Int32 → Int32 → Int32 → NM Unit) : Nat → Int32 → Int32 → Int32 → Int32 → Int32 → NM Unit
  | 0 => fun _ _ _ _ _ => nf
  | n + 1 => fun x1 x3 x4 x5 x6 => N12_look_91_st k54 (N12_look_91 k54 n) x1 x3 x4 x5 x6
def N12_look_257 (k181 : Int32 → Int32 → Int32 → Int32 → Int32 → NM Unit) (x1 : Int32) (x3 : Int32) (x4 : Int32) (x5 : Int32) (x6 : Int32) : NM Unit :=
  (k181 x1 x3 x4 x5 (x6 + (1 : Int32)))
def N12_look_229 (k181 : Int32 → Int32 → Int32 → Int32 → Int32 → NM Unit) (x1 : Int32) (x3 : Int32) (x4 : Int32) (x5 : Int32) (x6 : Int32) (y0 : Int32) (y1 : Int32) (y2 : Nat) : NM Unit :=
  nb (nsZ y2 y1 y0) fun _ =>
  nb (naZ 41 x6) fun v1 =>
  if v1 = 0 then ((N12_look_257 k181 x1 x3 x4 x5 x6)) else (nb (naI 18 (x3 + x6)) fun v2 =>
  (N12_look_257 k181 x1 x3 (x4 + (-1 : Int32)) v2 x6))
def N12_look_228 (k181 : Int32 → Int32 → Int32 → Int32 → Int32 → NM Unit) (x1 : Int32) (x3 : Int32) (x4 : Int32) (x5 : Int32) (x6 : Int32) (y0 : Int32) (y1 : Nat) : NM Unit :=
  (N12_look_229 k181 x1 x3 x4 x5 x6 (0 : Int32) y0 y1)
def N12_look_181_st  (k181 : Int32 → Int32 → Int32 → Int32 → Int32 → NM Unit) (x1 : Int32) (x3 : Int32) (x4 : Int32) (x5 : Int32) (x6 : Int32) : NM Unit :=
  nb (naI 17 x1) fun v1 =>
  if v1 ≤ x6 then (nr ()) else (nb (naI 40 x6) fun v2 =>
  if v2 = x4 then (nb (naI 18 (x3 + x6)) fun v3 =>
  if v3 ≤ x5 then ((N12_look_228 k181 x1 x3 x4 x5 x6 x6 41)) else ((N12_look_229 k181 x1 x3 x4 x5 x6 (1 : Int32) x6 41))) else ((N12_look_228 k181 x1 x3 x4 x5 x6 x6 41)))
def N12_look_181  : Nat → Int32 → Int32 → Int32 → Int32 → Int32 → NM Unit
  | 0 => fun _ _ _ _ _ => nf
  | n + 1 => fun x1 x3 x4 x5 x6 => N12_look_181_st  (N12_look_181  n) x1 x3 x4 x5 x6
def N12_look_175  (x1 : Int32) (x3 : Int32) (x4 : Int32) : NM Unit :=
  (N12_look_181  LFU x1 x3 x4 (-1 : Int32) (0 : Int32))
def N12_look_54_st  (k54 : Int32 → Int32 → Int32 → Int32 → NM Unit) (x1 : Int32) (x3 : Int32) (x4 : Int32) (x5 : Int32) : NM Unit :=
  if x5 < 0 then ((N12_look_175  x1 x3 x4)) else (nb (naI 18 (x3 + x5)) fun v1 =>
  nb (naI 39 v1) fun v2 =>
  nb (nsI 39 v1 (v2 + (1 : Int32))) fun _ =>
  nb (nsI 40 x5 (1 : Int32)) fun _ =>
  (N12_look_91 k54 LFU x1 x3 x4 x5 (x5 + (1 : Int32))))
def N12_look_54  : Nat → Int32 → Int32 → Int32 → Int32 → NM Unit
  | 0 => fun _ _ _ _ => nf
  | n + 1 => fun x1 x3 x4 x5 => N12_look_54_st  (N12_look_54  n) x1 x3 x4 x5
def N12_look_41  (x1 : Int32) (x3 : Int32) : NM Unit :=
  nb (naI 17 x1) fun v1 =>
  (N12_look_54  LFU x1 x3 (0 : Int32) (v1 - (1 : Int32)))
def N12_look_16_st  (k16 : Int32 → Int32 → Int32 → Int32 → NM Unit) (x1 : Int32) (x2 : Int32) (x3 : Int32) (x4 : Int32) : NM Unit :=
  nb (naI 11 x2) fun v1 =>
  if v1 ≤ x4 then ((N12_look_41  x1 x3)) else (nb (nsI 39 x4 (0 : Int32)) fun _ =>
  (k16 x1 x2 x3 (x4 + (1 : Int32))))
def N12_look_16  : Nat → Int32 → Int32 → Int32 → Int32 → NM Unit
  | 0 => fun _ _ _ _ => nf
  | n + 1 => fun x1 x2 x3 x4 => N12_look_16_st  (N12_look_16  n) x1 x2 x3 x4
def N12_look (a1 : Int32) : NM Unit :=
  nb (naI 16 a1) fun v1 =>
  (N12_look_16  LFU a1 v1 (a1 * (400 : Int32)) (0 : Int32))
theorem t_X12_look_149 {m : Nat} {rf : Nat → Option Nat} {k54 : Int32 → Int32 → Int32 → Int32 → NM Unit} (K54 : Nat → Int32 → Int32 → Int32 → Int32 → MM Unit) (hk54 : ∀ (x1 : Int32) (x3 : Int32) (x4 : Int32) (x5 : Int32), Sm m rf (K54 m x1 x3 x4 x5) (k54 x1 x3 x4 x5)) {k91 : Int32 → Int32 → Int32 → Int32 → Int32 → NM Unit} (K91 : Nat → Int32 → Int32 → Int32 → Int32 → Int32 → MM Unit) (hk91 : ∀ (x1 : Int32) (x3 : Int32) (x4 : Int32) (x5 : Int32) (x6 : Int32), Sm m rf (K91 m x1 x3 x4 x5 x6) (k91 x1 x3 x4 x5 x6)) (x1 : Int32) (x3 : Int32) (x4 : Int32) (x5 : Int32) (x6 : Int32) : Sm m rf (X12_look_149 K54 K91 m x1 x3 x4 x5 x6) (N12_look_149 k54 k91 x1 x3 x4 x5 x6) := by
  unfold X12_look_149 N12_look_149
  exact hk91 x1 x3 x4 x5 (x6 + (1 : Int32))
theorem t_X12_look_155 {m : Nat} {rf : Nat → Option Nat} {k54 : Int32 → Int32 → Int32 → Int32 → NM Unit} (K54 : Nat → Int32 → Int32 → Int32 → Int32 → MM Unit) (hk54 : ∀ (x1 : Int32) (x3 : Int32) (x4 : Int32) (x5 : Int32), Sm m rf (K54 m x1 x3 x4 x5) (k54 x1 x3 x4 x5)) (x1 : Int32) (x3 : Int32) (x4 : Int32) (x5 : Int32) : Sm m rf (X12_look_155 K54 m x1 x3 x4 x5) (N12_look_155 k54 x1 x3 x4 x5) := by
  unfold X12_look_155 N12_look_155
  refine sm_gR (k := 40) (by decide) rfl ?_
  refine sm_aI fun v1 => ?_
  exact hk54 x1 x3 (if x4 < v1 then v1 else x4) (x5 + (-1 : Int32))
theorem t_X12_look_91_st {m : Nat} {rf : Nat → Option Nat} {k54 : Int32 → Int32 → Int32 → Int32 → NM Unit} (K54 : Nat → Int32 → Int32 → Int32 → Int32 → MM Unit) (hk54 : ∀ (x1 : Int32) (x3 : Int32) (x4 : Int32) (x5 : Int32), Sm m rf (K54 m x1 x3 x4 x5) (k54 x1 x3 x4 x5)) {k91 : Int32 → Int32 → Int32 → Int32 → Int32 → NM Unit} (K91 : Nat → Int32 → Int32 → Int32 → Int32 → Int32 → MM Unit) (hk91 : ∀ (x1 : Int32) (x3 : Int32) (x4 : Int32) (x5 : Int32) (x6 : Int32), Sm m rf (K91 m x1 x3 x4 x5 x6) (k91 x1 x3 x4 x5 x6)) (x1 : Int32) (x3 : Int32) (x4 : Int32) (x5 : Int32) (x6 : Int32) : Sm m rf (X12_look_91_st K54 K91 m x1 x3 x4 x5 x6) (N12_look_91_st k54 k91 x1 x3 x4 x5 x6) := by
  unfold X12_look_91_st N12_look_91_st
  refine sm_gR (k := 17) (by decide) rfl ?_
  refine sm_aI fun v1 => ?_
  refine sm_ite ?_ ?_
  · exact t_X12_look_155 _ hk54 x1 x3 x4 x5
  · refine sm_gR (k := 18) (by decide) rfl ?_
    refine sm_aI fun v2 => ?_
    refine sm_gR (k := 18) (by decide) rfl ?_
    refine sm_aI fun v3 => ?_
    refine sm_ite ?_ ?_
    · exact t_X12_look_149 _ hk54 _ hk91 x1 x3 x4 x5 x6
    · refine sm_gR (k := 40) (by decide) rfl ?_
      refine sm_gR (k := 40) (by decide) rfl ?_
      refine sm_aI fun v4 => ?_
      refine sm_gR (k := 40) (by decide) rfl ?_
      refine sm_aI fun v5 => ?_
      refine sm_sI ?_
      exact t_X12_look_149 _ hk54 _ hk91 x1 x3 x4 x5 x6
theorem t_X12_look_91 {m : Nat} {rf : Nat → Option Nat} {k54 : Int32 → Int32 → Int32 → Int32 → NM Unit} (K54 : Nat → Int32 → Int32 → Int32 → Int32 → MM Unit) (hk54 : ∀ (x1 : Int32) (x3 : Int32) (x4 : Int32) (x5 : Int32), Sm m rf (K54 m x1 x3 x4 x5) (k54 x1 x3 x4 x5)) : ∀ (n : Nat) (x1 : Int32) (x3 : Int32) (x4 : Int32) (x5 : Int32) (x6 : Int32), Sm m rf (X12_look_91 K54 n m x1 x3 x4 x5 x6) (N12_look_91 k54 n x1 x3 x4 x5 x6) := by
  intro n
  induction n with
  | zero => intro x1 x3 x4 x5 x6; exact sm_mf
  | succ n ih => intro x1 x3 x4 x5 x6; exact t_X12_look_91_st _ hk54 _ ih x1 x3 x4 x5 x6
theorem t_X12_look_257 {m : Nat} {rf : Nat → Option Nat} {k181 : Int32 → Int32 → Int32 → Int32 → Int32 → NM Unit} (K181 : Nat → Int32 → Int32 → Int32 → Int32 → Int32 → MM Unit) (hk181 : ∀ (x1 : Int32) (x3 : Int32) (x4 : Int32) (x5 : Int32) (x6 : Int32), Sm m rf (K181 m x1 x3 x4 x5 x6) (k181 x1 x3 x4 x5 x6)) (x1 : Int32) (x3 : Int32) (x4 : Int32) (x5 : Int32) (x6 : Int32) : Sm m rf (X12_look_257 K181 m x1 x3 x4 x5 x6) (N12_look_257 k181 x1 x3 x4 x5 x6) := by
  unfold X12_look_257 N12_look_257
  exact hk181 x1 x3 x4 x5 (x6 + (1 : Int32))
theorem t_X12_look_229 {m : Nat} {rf : Nat → Option Nat} {k181 : Int32 → Int32 → Int32 → Int32 → Int32 → NM Unit} (K181 : Nat → Int32 → Int32 → Int32 → Int32 → Int32 → MM Unit) (hk181 : ∀ (x1 : Int32) (x3 : Int32) (x4 : Int32) (x5 : Int32) (x6 : Int32), Sm m rf (K181 m x1 x3 x4 x5 x6) (k181 x1 x3 x4 x5 x6)) (x1 : Int32) (x3 : Int32) (x4 : Int32) (x5 : Int32) (x6 : Int32) (y0 : Int32) (y1 : Int32) (y2 : Nat) : Sm m rf (X12_look_229 K181 m x1 x3 x4 x5 x6 y0 y1 (some (m + oM y2))) (N12_look_229 k181 x1 x3 x4 x5 x6 y0 y1 y2) := by
  unfold X12_look_229 N12_look_229
  refine sm_sB ?_
  refine sm_gR (k := 41) (by decide) rfl ?_
  refine sm_aB fun v1 => ?_
  refine sm_ite ?_ ?_
  · exact t_X12_look_257 _ hk181 x1 x3 x4 x5 x6
  · refine sm_gR (k := 18) (by decide) rfl ?_
    refine sm_aI fun v2 => ?_
    exact t_X12_look_257 _ hk181 x1 x3 (x4 + (-1 : Int32)) v2 x6
theorem t_X12_look_228 {m : Nat} {rf : Nat → Option Nat} {k181 : Int32 → Int32 → Int32 → Int32 → Int32 → NM Unit} (K181 : Nat → Int32 → Int32 → Int32 → Int32 → Int32 → MM Unit) (hk181 : ∀ (x1 : Int32) (x3 : Int32) (x4 : Int32) (x5 : Int32) (x6 : Int32), Sm m rf (K181 m x1 x3 x4 x5 x6) (k181 x1 x3 x4 x5 x6)) (x1 : Int32) (x3 : Int32) (x4 : Int32) (x5 : Int32) (x6 : Int32) (y0 : Int32) (y1 : Nat) : Sm m rf (X12_look_228 K181 m x1 x3 x4 x5 x6 y0 (some (m + oM y1))) (N12_look_228 k181 x1 x3 x4 x5 x6 y0 y1) := by
  unfold X12_look_228 N12_look_228
  exact t_X12_look_229 _ hk181 x1 x3 x4 x5 x6 (0 : Int32) y0 y1
theorem t_X12_look_181_st {m : Nat} {rf : Nat → Option Nat} {k181 : Int32 → Int32 → Int32 → Int32 → Int32 → NM Unit} (K181 : Nat → Int32 → Int32 → Int32 → Int32 → Int32 → MM Unit) (hk181 : ∀ (x1 : Int32) (x3 : Int32) (x4 : Int32) (x5 : Int32) (x6 : Int32), Sm m rf (K181 m x1 x3 x4 x5 x6) (k181 x1 x3 x4 x5 x6)) (x1 : Int32) (x3 : Int32) (x4 : Int32) (x5 : Int32) (x6 : Int32) : Sm m rf (X12_look_181_st  K181 m x1 x3 x4 x5 x6) (N12_look_181_st  k181 x1 x3 x4 x5 x6) := by
  unfold X12_look_181_st N12_look_181_st
  refine sm_gR (k := 17) (by decide) rfl ?_
  refine sm_aI fun v1 => ?_
  refine sm_ite ?_ ?_
  · exact sm_ret
  · refine sm_gR (k := 41) (by decide) rfl ?_
    refine sm_gR (k := 40) (by decide) rfl ?_
    refine sm_aI fun v2 => ?_
    refine sm_ite ?_ ?_
    · refine sm_gR (k := 18) (by decide) rfl ?_
      refine sm_aI fun v3 => ?_
      refine sm_ite ?_ ?_
      · exact t_X12_look_228 _ hk181 x1 x3 x4 x5 x6 x6 41
      · exact t_X12_look_229 _ hk181 x1 x3 x4 x5 x6 (1 : Int32) x6 41
    · exact t_X12_look_228 _ hk181 x1 x3 x4 x5 x6 x6 41
theorem t_X12_look_181 {m : Nat} {rf : Nat → Option Nat} : ∀ (n : Nat) (x1 : Int32) (x3 : Int32) (x4 : Int32) (x5 : Int32) (x6 : Int32), Sm m rf (X12_look_181  n m x1 x3 x4 x5 x6) (N12_look_181  n x1 x3 x4 x5 x6) := by
  intro n
  induction n with
  | zero => intro x1 x3 x4 x5 x6; exact sm_mf
  | succ n ih => intro x1 x3 x4 x5 x6; exact t_X12_look_181_st  _ ih x1 x3 x4 x5 x6
theorem t_X12_look_175 {m : Nat} {rf : Nat → Option Nat} (x1 : Int32) (x3 : Int32) (x4 : Int32) : Sm m rf (X12_look_175  m x1 x3 x4) (N12_look_175  x1 x3 x4) := by
  unfold X12_look_175 N12_look_175
  exact t_X12_look_181  LFU x1 x3 x4 (-1 : Int32) (0 : Int32)
theorem t_X12_look_54_st {m : Nat} {rf : Nat → Option Nat} {k54 : Int32 → Int32 → Int32 → Int32 → NM Unit} (K54 : Nat → Int32 → Int32 → Int32 → Int32 → MM Unit) (hk54 : ∀ (x1 : Int32) (x3 : Int32) (x4 : Int32) (x5 : Int32), Sm m rf (K54 m x1 x3 x4 x5) (k54 x1 x3 x4 x5)) (x1 : Int32) (x3 : Int32) (x4 : Int32) (x5 : Int32) : Sm m rf (X12_look_54_st  K54 m x1 x3 x4 x5) (N12_look_54_st  k54 x1 x3 x4 x5) := by
  unfold X12_look_54_st N12_look_54_st
  refine sm_ite ?_ ?_
  · exact t_X12_look_175  x1 x3 x4
  · refine sm_gR (k := 39) (by decide) rfl ?_
    refine sm_gR (k := 18) (by decide) rfl ?_
    refine sm_aI fun v1 => ?_
    refine sm_aI fun v2 => ?_
    refine sm_sI ?_
    refine sm_gR (k := 40) (by decide) rfl ?_
    refine sm_sI ?_
    exact t_X12_look_91 _ hk54 LFU x1 x3 x4 x5 (x5 + (1 : Int32))
theorem t_X12_look_54 {m : Nat} {rf : Nat → Option Nat} : ∀ (n : Nat) (x1 : Int32) (x3 : Int32) (x4 : Int32) (x5 : Int32), Sm m rf (X12_look_54  n m x1 x3 x4 x5) (N12_look_54  n x1 x3 x4 x5) := by
  intro n
  induction n with
  | zero => intro x1 x3 x4 x5; exact sm_mf
  | succ n ih => intro x1 x3 x4 x5; exact t_X12_look_54_st  _ ih x1 x3 x4 x5
theorem t_X12_look_41 {m : Nat} {rf : Nat → Option Nat} (x1 : Int32) (x3 : Int32) : Sm m rf (X12_look_41  m x1 x3) (N12_look_41  x1 x3) := by
  unfold X12_look_41 N12_look_41
  refine sm_gR (k := 17) (by decide) rfl ?_
  refine sm_aI fun v1 => ?_
  exact t_X12_look_54  LFU x1 x3 (0 : Int32) (v1 - (1 : Int32))
theorem t_X12_look_16_st {m : Nat} {rf : Nat → Option Nat} {k16 : Int32 → Int32 → Int32 → Int32 → NM Unit} (K16 : Nat → Int32 → Int32 → Int32 → Int32 → MM Unit) (hk16 : ∀ (x1 : Int32) (x2 : Int32) (x3 : Int32) (x4 : Int32), Sm m rf (K16 m x1 x2 x3 x4) (k16 x1 x2 x3 x4)) (x1 : Int32) (x2 : Int32) (x3 : Int32) (x4 : Int32) : Sm m rf (X12_look_16_st  K16 m x1 x2 x3 x4) (N12_look_16_st  k16 x1 x2 x3 x4) := by
  unfold X12_look_16_st N12_look_16_st
  refine sm_gR (k := 11) (by decide) rfl ?_
  refine sm_aI fun v1 => ?_
  refine sm_ite ?_ ?_
  · exact t_X12_look_41  x1 x3
  · refine sm_gR (k := 39) (by decide) rfl ?_
    refine sm_sI ?_
    exact hk16 x1 x2 x3 (x4 + (1 : Int32))
theorem t_X12_look_16 {m : Nat} {rf : Nat → Option Nat} : ∀ (n : Nat) (x1 : Int32) (x2 : Int32) (x3 : Int32) (x4 : Int32), Sm m rf (X12_look_16  n m x1 x2 x3 x4) (N12_look_16  n x1 x2 x3 x4) := by
  intro n
  induction n with
  | zero => intro x1 x2 x3 x4; exact sm_mf
  | succ n ih => intro x1 x2 x3 x4; exact t_X12_look_16_st  _ ih x1 x2 x3 x4
theorem t_X12_look {m : Nat} {rf : Nat → Option Nat} (a1 : Int32) : Sm m rf (X12_look m a1) (N12_look a1) := by
  unfold X12_look N12_look
  refine sm_gR (k := 16) (by decide) rfl ?_
  refine sm_aI fun v1 => ?_
  exact t_X12_look_16  LFU a1 v1 (a1 * (400 : Int32)) (0 : Int32)
def N12_isTold (a1 : Int32) (a2 : Int32) (a3 : Int32) : NM Int32 :=
  nb (naI 16 a1) fun v1 =>
  if a2 = (2 : Int32) then (nb (naI 39 a3) fun v2 =>
  if v2 = 0 then (nr (1 : Int32)) else (nr (0 : Int32))) else (if a2 = (3 : Int32) then (nb (naI 39 a3) fun v3 =>
  if v3 ≤ (1 : Int32) then (nr (0 : Int32)) else (nr (1 : Int32))) else (if a2 = (4 : Int32) then (nb (naZ 41 a3) fun v4 =>
  if v4 = 0 then (nr (1 : Int32)) else (nr (0 : Int32))) else (nb (N12_conjugate v1 a3) fun v5 =>
  nb (naI 39 a3) fun v6 =>
  if v6 ≤ 0 then (nr (0 : Int32)) else (if v5 < 0 then (nr (0 : Int32)) else (nb (naI 39 v5) fun v7 =>
  if v7 = 0 then (nr (1 : Int32)) else (nr (0 : Int32)))))))
theorem t_X12_isTold {m : Nat} {rf : Nat → Option Nat} (a1 : Int32) (a2 : Int32) (a3 : Int32) : Sm m rf (X12_isTold m a1 a2 a3) (N12_isTold a1 a2 a3) := by
  unfold X12_isTold N12_isTold
  refine sm_gR (k := 16) (by decide) rfl ?_
  refine sm_aI fun v1 => ?_
  refine sm_ite ?_ ?_
  · refine sm_gR (k := 39) (by decide) rfl ?_
    refine sm_aI fun v2 => ?_
    refine sm_ite ?_ ?_
    · exact sm_ret
    · exact sm_ret
  · refine sm_ite ?_ ?_
    · refine sm_gR (k := 39) (by decide) rfl ?_
      refine sm_aI fun v3 => ?_
      refine sm_ite ?_ ?_
      · exact sm_ret
      · exact sm_ret
    · refine sm_ite ?_ ?_
      · refine sm_gR (k := 41) (by decide) rfl ?_
        refine sm_aB fun v4 => ?_
        refine sm_ite ?_ ?_
        · exact sm_ret
        · exact sm_ret
      · refine sm_wc (t_X12_conjugate v1 a3) fun v5 => ?_
        refine sm_gR (k := 39) (by decide) rfl ?_
        refine sm_aI fun v6 => ?_
        refine sm_ite ?_ ?_
        · exact sm_ret
        · refine sm_ite ?_ ?_
          · exact sm_ret
          · refine sm_gR (k := 39) (by decide) rfl ?_
            refine sm_aI fun v7 => ?_
            refine sm_ite ?_ ?_
            · exact sm_ret
            · exact sm_ret
def N12_many (a1 : Int32) (a2 : Int32) : NM Int32 :=
  if a2 = (4 : Int32) then (nb (naI 17 a1) fun v1 =>
  nr v1) else (nb (naI 16 a1) fun v2 =>
  nb (naI 11 v2) fun v3 =>
  nr v3)
theorem t_X12_many {m : Nat} {rf : Nat → Option Nat} (a1 : Int32) (a2 : Int32) : Sm m rf (X12_many m a1 a2) (N12_many a1 a2) := by
  unfold X12_many N12_many
  refine sm_ite ?_ ?_
  · refine sm_gR (k := 17) (by decide) rfl ?_
    refine sm_aI fun v1 => ?_
    exact sm_ret
  · refine sm_gR (k := 11) (by decide) rfl ?_
    refine sm_gR (k := 16) (by decide) rfl ?_
    refine sm_aI fun v2 => ?_
    refine sm_aI fun v3 => ?_
    exact sm_ret
def N12_writeRuns_119 (k13 : Int32 → Int32 → Int32 → Int32 → Int32 → NM Unit) (x1 : Int32) (x2 : Int32) (x3 : Int32) (x4 : Int32) (x6 : Int32) : NM Unit :=
  (k13 x1 x2 x3 x4 (x6 + (1 : Int32)))
def N12_writeRuns_89 (k13 : Int32 → Int32 → Int32 → Int32 → Int32 → NM Unit) (x1 : Int32) (x2 : Int32) (x3 : Int32) (x5 : Int32) (x6 : Int32) : NM Unit :=
  nb (N12_writeName x3 x5) fun _ =>
  if x6 ≤ x5 then ((N12_writeRuns_119 k13 x1 x2 x3 (1 : Int32) x6)) else (nb (N12_write (45 : Int32)) fun _ =>
  nb (N12_writeName x3 x6) fun _ =>
  (N12_writeRuns_119 k13 x1 x2 x3 (1 : Int32) x6))
def N12_writeRuns_77 (k13 : Int32 → Int32 → Int32 → Int32 → Int32 → NM Unit) (x1 : Int32) (x2 : Int32) (x3 : Int32) (x4 : Int32) (x5 : Int32) (x6 : Int32) : NM Unit :=
  if x4 = 0 then ((N12_writeRuns_89 k13 x1 x2 x3 x5 x6)) else (nb (N12_writeWord 14) fun _ =>
  (N12_writeRuns_89 k13 x1 x2 x3 x5 x6))
def N12_writeRuns_45_st (k13 : Int32 → Int32 → Int32 → Int32 → Int32 → NM Unit) (k45 : Int32 → Int32 → Int32 → Int32 → Int32 → Int32 → NM Unit) (x1 : Int32) (x2 : Int32) (x3 : Int32) (x4 : Int32) (x5 : Int32) (x6 : Int32) : NM Unit :=
  nb (naI 11 x3) fun v1 =>
  if v1 ≤ (x6 + (1 : Int32)) then ((N12_writeRuns_77 k13 x1 x2 x3 x4 x5 x6)) else (nb (N12_isTold x1 x2 (x6 + (1 : Int32))) fun v2 =>
  if v2 = 0 then ((N12_writeRuns_77 k13 x1 x2 x3 x4 x5 x6)) else ((k45 x1 x2 x3 x4 x5 (x6 + (1 : Int32)))))
def N12_writeRuns_45 (k13 : Int32 → Int32 → Int32 → Int32 → Int32 → NM Unit) : Nat → Int32 → Int32 → Int32 → Int32 → Int32 → Int32 → NM Unit
  | 0 => fun _ _ _ _ _ _ => nf
  | n + 1 => fun x1 x2 x3 x4 x5 x6 => N12_writeRuns_45_st k13 (N12_writeRuns_45 k13 n) x1 x2 x3 x4 x5 x6
def N12_writeRuns_13_st  (k13 : Int32 → Int32 → Int32 → Int32 → Int32 → NM Unit) (x1 : Int32) (x2 : Int32) (x3 : Int32) (x4 : Int32) (x5 : Int32) : NM Unit :=
  nb (naI 11 x3) fun v1 =>
  if v1 ≤ x5 then (nr ()) else (nb (N12_isTold x1 x2 x5) fun v2 =>
  if v2 = 0 then ((k13 x1 x2 x3 x4 (x5 + (1 : Int32)))) else ((N12_writeRuns_45 k13 LFU x1 x2 x3 x4 x5 x5)))
def N12_writeRuns_13  : Nat → Int32 → Int32 → Int32 → Int32 → Int32 → NM Unit
  | 0 => fun _ _ _ _ _ => nf
  | n + 1 => fun x1 x2 x3 x4 x5 => N12_writeRuns_13_st  (N12_writeRuns_13  n) x1 x2 x3 x4 x5
def N12_writeRuns (a1 : Int32) (a2 : Int32) : NM Unit :=
  nb (naI 16 a1) fun v1 =>
  (N12_writeRuns_13  LFU a1 a2 v1 (0 : Int32) (0 : Int32))
theorem t_X12_writeRuns_119 {m : Nat} {rf : Nat → Option Nat} {k13 : Int32 → Int32 → Int32 → Int32 → Int32 → NM Unit} (K13 : Nat → Int32 → Int32 → Int32 → Int32 → Int32 → MM Unit) (hk13 : ∀ (x1 : Int32) (x2 : Int32) (x3 : Int32) (x4 : Int32) (x5 : Int32), Sm m rf (K13 m x1 x2 x3 x4 x5) (k13 x1 x2 x3 x4 x5)) (x1 : Int32) (x2 : Int32) (x3 : Int32) (x4 : Int32) (x6 : Int32) : Sm m rf (X12_writeRuns_119 K13 m x1 x2 x3 x4 x6) (N12_writeRuns_119 k13 x1 x2 x3 x4 x6) := by
  unfold X12_writeRuns_119 N12_writeRuns_119
  exact hk13 x1 x2 x3 x4 (x6 + (1 : Int32))
theorem t_X12_writeRuns_89 {m : Nat} {rf : Nat → Option Nat} {k13 : Int32 → Int32 → Int32 → Int32 → Int32 → NM Unit} (K13 : Nat → Int32 → Int32 → Int32 → Int32 → Int32 → MM Unit) (hk13 : ∀ (x1 : Int32) (x2 : Int32) (x3 : Int32) (x4 : Int32) (x5 : Int32), Sm m rf (K13 m x1 x2 x3 x4 x5) (k13 x1 x2 x3 x4 x5)) (x1 : Int32) (x2 : Int32) (x3 : Int32) (x5 : Int32) (x6 : Int32) : Sm m rf (X12_writeRuns_89 K13 m x1 x2 x3 x5 x6) (N12_writeRuns_89 k13 x1 x2 x3 x5 x6) := by
  unfold X12_writeRuns_89 N12_writeRuns_89
  refine sm_wc (t_X12_writeName x3 x5) fun _ => ?_
  refine sm_ite ?_ ?_
  · exact t_X12_writeRuns_119 _ hk13 x1 x2 x3 (1 : Int32) x6
  · refine sm_wc (t_X12_write (45 : Int32)) fun _ => ?_
    refine sm_wc (t_X12_writeName x3 x6) fun _ => ?_
    exact t_X12_writeRuns_119 _ hk13 x1 x2 x3 (1 : Int32) x6
theorem t_X12_writeRuns_77 {m : Nat} {rf : Nat → Option Nat} {k13 : Int32 → Int32 → Int32 → Int32 → Int32 → NM Unit} (K13 : Nat → Int32 → Int32 → Int32 → Int32 → Int32 → MM Unit) (hk13 : ∀ (x1 : Int32) (x2 : Int32) (x3 : Int32) (x4 : Int32) (x5 : Int32), Sm m rf (K13 m x1 x2 x3 x4 x5) (k13 x1 x2 x3 x4 x5)) (x1 : Int32) (x2 : Int32) (x3 : Int32) (x4 : Int32) (x5 : Int32) (x6 : Int32) : Sm m rf (X12_writeRuns_77 K13 m x1 x2 x3 x4 x5 x6) (N12_writeRuns_77 k13 x1 x2 x3 x4 x5 x6) := by
  unfold X12_writeRuns_77 N12_writeRuns_77
  refine sm_ite ?_ ?_
  · exact t_X12_writeRuns_89 _ hk13 x1 x2 x3 x5 x6
  · refine sm_kR (i := 14) ?_
    refine sm_wc (t_X12_writeWord 14) fun _ => ?_
    exact t_X12_writeRuns_89 _ hk13 x1 x2 x3 x5 x6
theorem t_X12_writeRuns_45_st {m : Nat} {rf : Nat → Option Nat} {k13 : Int32 → Int32 → Int32 → Int32 → Int32 → NM Unit} (K13 : Nat → Int32 → Int32 → Int32 → Int32 → Int32 → MM Unit) (hk13 : ∀ (x1 : Int32) (x2 : Int32) (x3 : Int32) (x4 : Int32) (x5 : Int32), Sm m rf (K13 m x1 x2 x3 x4 x5) (k13 x1 x2 x3 x4 x5)) {k45 : Int32 → Int32 → Int32 → Int32 → Int32 → Int32 → NM Unit} (K45 : Nat → Int32 → Int32 → Int32 → Int32 → Int32 → Int32 → MM Unit) (hk45 : ∀ (x1 : Int32) (x2 : Int32) (x3 : Int32) (x4 : Int32) (x5 : Int32) (x6 : Int32), Sm m rf (K45 m x1 x2 x3 x4 x5 x6) (k45 x1 x2 x3 x4 x5 x6)) (x1 : Int32) (x2 : Int32) (x3 : Int32) (x4 : Int32) (x5 : Int32) (x6 : Int32) : Sm m rf (X12_writeRuns_45_st K13 K45 m x1 x2 x3 x4 x5 x6) (N12_writeRuns_45_st k13 k45 x1 x2 x3 x4 x5 x6) := by
  unfold X12_writeRuns_45_st N12_writeRuns_45_st
  refine sm_gR (k := 11) (by decide) rfl ?_
  refine sm_aI fun v1 => ?_
  refine sm_ite ?_ ?_
  · exact t_X12_writeRuns_77 _ hk13 x1 x2 x3 x4 x5 x6
  · refine sm_wc (t_X12_isTold x1 x2 (x6 + (1 : Int32))) fun v2 => ?_
    refine sm_ite ?_ ?_
    · exact t_X12_writeRuns_77 _ hk13 x1 x2 x3 x4 x5 x6
    · exact hk45 x1 x2 x3 x4 x5 (x6 + (1 : Int32))
theorem t_X12_writeRuns_45 {m : Nat} {rf : Nat → Option Nat} {k13 : Int32 → Int32 → Int32 → Int32 → Int32 → NM Unit} (K13 : Nat → Int32 → Int32 → Int32 → Int32 → Int32 → MM Unit) (hk13 : ∀ (x1 : Int32) (x2 : Int32) (x3 : Int32) (x4 : Int32) (x5 : Int32), Sm m rf (K13 m x1 x2 x3 x4 x5) (k13 x1 x2 x3 x4 x5)) : ∀ (n : Nat) (x1 : Int32) (x2 : Int32) (x3 : Int32) (x4 : Int32) (x5 : Int32) (x6 : Int32), Sm m rf (X12_writeRuns_45 K13 n m x1 x2 x3 x4 x5 x6) (N12_writeRuns_45 k13 n x1 x2 x3 x4 x5 x6) := by
  intro n
  induction n with
  | zero => intro x1 x2 x3 x4 x5 x6; exact sm_mf
  | succ n ih => intro x1 x2 x3 x4 x5 x6; exact t_X12_writeRuns_45_st _ hk13 _ ih x1 x2 x3 x4 x5 x6
theorem t_X12_writeRuns_13_st {m : Nat} {rf : Nat → Option Nat} {k13 : Int32 → Int32 → Int32 → Int32 → Int32 → NM Unit} (K13 : Nat → Int32 → Int32 → Int32 → Int32 → Int32 → MM Unit) (hk13 : ∀ (x1 : Int32) (x2 : Int32) (x3 : Int32) (x4 : Int32) (x5 : Int32), Sm m rf (K13 m x1 x2 x3 x4 x5) (k13 x1 x2 x3 x4 x5)) (x1 : Int32) (x2 : Int32) (x3 : Int32) (x4 : Int32) (x5 : Int32) : Sm m rf (X12_writeRuns_13_st  K13 m x1 x2 x3 x4 x5) (N12_writeRuns_13_st  k13 x1 x2 x3 x4 x5) := by
  unfold X12_writeRuns_13_st N12_writeRuns_13_st
  refine sm_gR (k := 11) (by decide) rfl ?_
  refine sm_aI fun v1 => ?_
  refine sm_ite ?_ ?_
  · exact sm_ret
  · refine sm_wc (t_X12_isTold x1 x2 x5) fun v2 => ?_
    refine sm_ite ?_ ?_
    · exact hk13 x1 x2 x3 x4 (x5 + (1 : Int32))
    · exact t_X12_writeRuns_45 _ hk13 LFU x1 x2 x3 x4 x5 x5
theorem t_X12_writeRuns_13 {m : Nat} {rf : Nat → Option Nat} : ∀ (n : Nat) (x1 : Int32) (x2 : Int32) (x3 : Int32) (x4 : Int32) (x5 : Int32), Sm m rf (X12_writeRuns_13  n m x1 x2 x3 x4 x5) (N12_writeRuns_13  n x1 x2 x3 x4 x5) := by
  intro n
  induction n with
  | zero => intro x1 x2 x3 x4 x5; exact sm_mf
  | succ n ih => intro x1 x2 x3 x4 x5; exact t_X12_writeRuns_13_st  _ ih x1 x2 x3 x4 x5
theorem t_X12_writeRuns {m : Nat} {rf : Nat → Option Nat} (a1 : Int32) (a2 : Int32) : Sm m rf (X12_writeRuns m a1 a2) (N12_writeRuns a1 a2) := by
  unfold X12_writeRuns N12_writeRuns
  refine sm_gR (k := 16) (by decide) rfl ?_
  refine sm_aI fun v1 => ?_
  exact t_X12_writeRuns_13  LFU a1 a2 v1 (0 : Int32) (0 : Int32)
def N12_countTold_33 (k5 : Int32 → Int32 → Int32 → Int32 → NM Int32) (x1 : Int32) (x2 : Int32) (x4 : Int32) (y0 : Int32) (y1 : Int32) : NM Int32 :=
  (k5 x1 x2 (y1 + y0) (x4 + (1 : Int32)))
def N12_countTold_5_st  (k5 : Int32 → Int32 → Int32 → Int32 → NM Int32) (x1 : Int32) (x2 : Int32) (x3 : Int32) (x4 : Int32) : NM Int32 :=
  nb (N12_many x1 x2) fun v1 =>
  if v1 ≤ x4 then (nr x3) else (nb (N12_isTold x1 x2 x4) fun v2 =>
  if v2 = 0 then ((N12_countTold_33 k5 x1 x2 x4 (0 : Int32) x3)) else ((N12_countTold_33 k5 x1 x2 x4 (1 : Int32) x3)))
def N12_countTold_5  : Nat → Int32 → Int32 → Int32 → Int32 → NM Int32
  | 0 => fun _ _ _ _ => nf
  | n + 1 => fun x1 x2 x3 x4 => N12_countTold_5_st  (N12_countTold_5  n) x1 x2 x3 x4
def N12_countTold (a1 : Int32) (a2 : Int32) : NM Int32 :=
  (N12_countTold_5  LFU a1 a2 (0 : Int32) (0 : Int32))
theorem t_X12_countTold_33 {m : Nat} {rf : Nat → Option Nat} {k5 : Int32 → Int32 → Int32 → Int32 → NM Int32} (K5 : Nat → Int32 → Int32 → Int32 → Int32 → MM Int32) (hk5 : ∀ (x1 : Int32) (x2 : Int32) (x3 : Int32) (x4 : Int32), Sm m rf (K5 m x1 x2 x3 x4) (k5 x1 x2 x3 x4)) (x1 : Int32) (x2 : Int32) (x4 : Int32) (y0 : Int32) (y1 : Int32) : Sm m rf (X12_countTold_33 K5 m x1 x2 x4 y0 y1) (N12_countTold_33 k5 x1 x2 x4 y0 y1) := by
  unfold X12_countTold_33 N12_countTold_33
  exact hk5 x1 x2 (y1 + y0) (x4 + (1 : Int32))
theorem t_X12_countTold_5_st {m : Nat} {rf : Nat → Option Nat} {k5 : Int32 → Int32 → Int32 → Int32 → NM Int32} (K5 : Nat → Int32 → Int32 → Int32 → Int32 → MM Int32) (hk5 : ∀ (x1 : Int32) (x2 : Int32) (x3 : Int32) (x4 : Int32), Sm m rf (K5 m x1 x2 x3 x4) (k5 x1 x2 x3 x4)) (x1 : Int32) (x2 : Int32) (x3 : Int32) (x4 : Int32) : Sm m rf (X12_countTold_5_st  K5 m x1 x2 x3 x4) (N12_countTold_5_st  k5 x1 x2 x3 x4) := by
  unfold X12_countTold_5_st N12_countTold_5_st
  refine sm_wc (t_X12_many x1 x2) fun v1 => ?_
  refine sm_ite ?_ ?_
  · exact sm_ret
  · refine sm_wc (t_X12_isTold x1 x2 x4) fun v2 => ?_
    refine sm_ite ?_ ?_
    · exact t_X12_countTold_33 _ hk5 x1 x2 x4 (0 : Int32) x3
    · exact t_X12_countTold_33 _ hk5 x1 x2 x4 (1 : Int32) x3
theorem t_X12_countTold_5 {m : Nat} {rf : Nat → Option Nat} : ∀ (n : Nat) (x1 : Int32) (x2 : Int32) (x3 : Int32) (x4 : Int32), Sm m rf (X12_countTold_5  n m x1 x2 x3 x4) (N12_countTold_5  n x1 x2 x3 x4) := by
  intro n
  induction n with
  | zero => intro x1 x2 x3 x4; exact sm_mf
  | succ n ih => intro x1 x2 x3 x4; exact t_X12_countTold_5_st  _ ih x1 x2 x3 x4
theorem t_X12_countTold {m : Nat} {rf : Nat → Option Nat} (a1 : Int32) (a2 : Int32) : Sm m rf (X12_countTold m a1 a2) (N12_countTold a1 a2) := by
  unfold X12_countTold N12_countTold
  exact t_X12_countTold_5  LFU a1 a2 (0 : Int32) (0 : Int32)
def N12_writeNote_158 (k101 : Int32 → Int32 → Int32 → NM Unit) (x1 : Int32) (x2 : Int32) (x3 : Int32) : NM Unit :=
  (k101 x1 x2 (x3 + (1 : Int32)))
def N12_writeNote_134 (k101 : Int32 → Int32 → Int32 → NM Unit) (x1 : Int32) (x3 : Int32) : NM Unit :=
  nb (naI 16 x1) fun v1 =>
  nb (naI 18 ((x1 * (400 : Int32)) + x3)) fun v2 =>
  nb (N12_writeName v1 v2) fun _ =>
  (N12_writeNote_158 k101 x1 (1 : Int32) x3)
def N12_writeNote_101_st  (k101 : Int32 → Int32 → Int32 → NM Unit) (x1 : Int32) (x2 : Int32) (x3 : Int32) : NM Unit :=
  nb (naI 17 x1) fun v1 =>
  if v1 ≤ x3 then (nr ()) else (nb (naZ 41 x3) fun v2 =>
  if v2 = 0 then (if x2 = 0 then ((N12_writeNote_134 k101 x1 x3)) else (nb (N12_writeWord 14) fun _ =>
  (N12_writeNote_134 k101 x1 x3))) else ((N12_writeNote_158 k101 x1 x2 x3)))
def N12_writeNote_101  : Nat → Int32 → Int32 → Int32 → NM Unit
  | 0 => fun _ _ _ => nf
  | n + 1 => fun x1 x2 x3 => N12_writeNote_101_st  (N12_writeNote_101  n) x1 x2 x3
def N12_writeNote_94  (x1 : Int32) (y0 : Nat) : NM Unit :=
  nb (N12_writeWord y0) fun _ =>
  (N12_writeNote_101  LFU x1 (0 : Int32) (0 : Int32))
def N12_writeNote_67  (x1 : Int32) : NM Unit :=
  nb (N12_countTold x1 (4 : Int32)) fun v1 =>
  if v1 = 0 then (nr ()) else (nb (ngI 37) fun v2 =>
  if v2 ≤ 0 then ((N12_writeNote_94  x1 18)) else ((N12_writeNote_94  x1 17)))
def N12_writeNote_58  (x1 : Int32) (y0 : Nat) : NM Unit :=
  nb (N12_writeWord y0) fun _ =>
  nb (N12_writeRuns x1 (3 : Int32)) fun _ =>
  (N12_writeNote_67  x1)
def N12_writeNote_32  (x1 : Int32) : NM Unit :=
  nb (N12_countTold x1 (3 : Int32)) fun v1 =>
  if v1 ≤ 0 then ((N12_writeNote_67  x1)) else (nb (ngI 37) fun v2 =>
  if v2 ≤ 0 then ((N12_writeNote_58  x1 16)) else ((N12_writeNote_58  x1 15)))
def N12_writeNote (a1 : Int32) : NM Unit :=
  nb (N12_look a1) fun _ =>
  nb (npI 37 (0 : Int32)) fun _ =>
  nb (N12_countTold a1 (2 : Int32)) fun v1 =>
  if v1 ≤ 0 then ((N12_writeNote_32  a1)) else (nb (N12_writeWord 13) fun _ =>
  nb (N12_writeRuns a1 (2 : Int32)) fun _ =>
  (N12_writeNote_32  a1))
theorem t_X12_writeNote_158 {m : Nat} {rf : Nat → Option Nat} {k101 : Int32 → Int32 → Int32 → NM Unit} (K101 : Nat → Int32 → Int32 → Int32 → MM Unit) (hk101 : ∀ (x1 : Int32) (x2 : Int32) (x3 : Int32), Sm m rf (K101 m x1 x2 x3) (k101 x1 x2 x3)) (x1 : Int32) (x2 : Int32) (x3 : Int32) : Sm m rf (X12_writeNote_158 K101 m x1 x2 x3) (N12_writeNote_158 k101 x1 x2 x3) := by
  unfold X12_writeNote_158 N12_writeNote_158
  exact hk101 x1 x2 (x3 + (1 : Int32))
theorem t_X12_writeNote_134 {m : Nat} {rf : Nat → Option Nat} {k101 : Int32 → Int32 → Int32 → NM Unit} (K101 : Nat → Int32 → Int32 → Int32 → MM Unit) (hk101 : ∀ (x1 : Int32) (x2 : Int32) (x3 : Int32), Sm m rf (K101 m x1 x2 x3) (k101 x1 x2 x3)) (x1 : Int32) (x3 : Int32) : Sm m rf (X12_writeNote_134 K101 m x1 x3) (N12_writeNote_134 k101 x1 x3) := by
  unfold X12_writeNote_134 N12_writeNote_134
  refine sm_gR (k := 16) (by decide) rfl ?_
  refine sm_aI fun v1 => ?_
  refine sm_gR (k := 18) (by decide) rfl ?_
  refine sm_aI fun v2 => ?_
  refine sm_wc (t_X12_writeName v1 v2) fun _ => ?_
  exact t_X12_writeNote_158 _ hk101 x1 (1 : Int32) x3
theorem t_X12_writeNote_101_st {m : Nat} {rf : Nat → Option Nat} {k101 : Int32 → Int32 → Int32 → NM Unit} (K101 : Nat → Int32 → Int32 → Int32 → MM Unit) (hk101 : ∀ (x1 : Int32) (x2 : Int32) (x3 : Int32), Sm m rf (K101 m x1 x2 x3) (k101 x1 x2 x3)) (x1 : Int32) (x2 : Int32) (x3 : Int32) : Sm m rf (X12_writeNote_101_st  K101 m x1 x2 x3) (N12_writeNote_101_st  k101 x1 x2 x3) := by
  unfold X12_writeNote_101_st N12_writeNote_101_st
  refine sm_gR (k := 17) (by decide) rfl ?_
  refine sm_aI fun v1 => ?_
  refine sm_ite ?_ ?_
  · exact sm_ret
  · refine sm_gR (k := 41) (by decide) rfl ?_
    refine sm_aB fun v2 => ?_
    refine sm_ite ?_ ?_
    · refine sm_ite ?_ ?_
      · exact t_X12_writeNote_134 _ hk101 x1 x3
      · refine sm_kR (i := 14) ?_
        refine sm_wc (t_X12_writeWord 14) fun _ => ?_
        exact t_X12_writeNote_134 _ hk101 x1 x3
    · exact t_X12_writeNote_158 _ hk101 x1 x2 x3
theorem t_X12_writeNote_101 {m : Nat} {rf : Nat → Option Nat} : ∀ (n : Nat) (x1 : Int32) (x2 : Int32) (x3 : Int32), Sm m rf (X12_writeNote_101  n m x1 x2 x3) (N12_writeNote_101  n x1 x2 x3) := by
  intro n
  induction n with
  | zero => intro x1 x2 x3; exact sm_mf
  | succ n ih => intro x1 x2 x3; exact t_X12_writeNote_101_st  _ ih x1 x2 x3
theorem t_X12_writeNote_94 {m : Nat} {rf : Nat → Option Nat} (x1 : Int32) (y0 : Nat) : Sm m rf (X12_writeNote_94  m x1 (rf y0)) (N12_writeNote_94  x1 y0) := by
  unfold X12_writeNote_94 N12_writeNote_94
  refine sm_wc (t_X12_writeWord y0) fun _ => ?_
  exact t_X12_writeNote_101  LFU x1 (0 : Int32) (0 : Int32)
theorem t_X12_writeNote_67 {m : Nat} {rf : Nat → Option Nat} (x1 : Int32) : Sm m rf (X12_writeNote_67  m x1) (N12_writeNote_67  x1) := by
  unfold X12_writeNote_67 N12_writeNote_67
  refine sm_wc (t_X12_countTold x1 (4 : Int32)) fun v1 => ?_
  refine sm_ite ?_ ?_
  · exact sm_ret
  · refine sm_gI (k := 37) (by decide) rfl fun v2 => ?_
    refine sm_ite ?_ ?_
    · refine sm_kR (i := 18) ?_
      exact t_X12_writeNote_94  x1 18
    · refine sm_kR (i := 17) ?_
      exact t_X12_writeNote_94  x1 17
theorem t_X12_writeNote_58 {m : Nat} {rf : Nat → Option Nat} (x1 : Int32) (y0 : Nat) : Sm m rf (X12_writeNote_58  m x1 (rf y0)) (N12_writeNote_58  x1 y0) := by
  unfold X12_writeNote_58 N12_writeNote_58
  refine sm_wc (t_X12_writeWord y0) fun _ => ?_
  refine sm_wc (t_X12_writeRuns x1 (3 : Int32)) fun _ => ?_
  exact t_X12_writeNote_67  x1
theorem t_X12_writeNote_32 {m : Nat} {rf : Nat → Option Nat} (x1 : Int32) : Sm m rf (X12_writeNote_32  m x1) (N12_writeNote_32  x1) := by
  unfold X12_writeNote_32 N12_writeNote_32
  refine sm_wc (t_X12_countTold x1 (3 : Int32)) fun v1 => ?_
  refine sm_ite ?_ ?_
  · exact t_X12_writeNote_67  x1
  · refine sm_gI (k := 37) (by decide) rfl fun v2 => ?_
    refine sm_ite ?_ ?_
    · refine sm_kR (i := 16) ?_
      exact t_X12_writeNote_58  x1 16
    · refine sm_kR (i := 15) ?_
      exact t_X12_writeNote_58  x1 15
theorem t_X12_writeNote {m : Nat} {rf : Nat → Option Nat} (a1 : Int32) : Sm m rf (X12_writeNote m a1) (N12_writeNote a1) := by
  unfold X12_writeNote N12_writeNote
  refine sm_wc (t_X12_look a1) fun _ => ?_
  refine sm_pI (k := 37) (by decide) rfl ?_
  refine sm_wc (t_X12_countTold a1 (2 : Int32)) fun v1 => ?_
  refine sm_ite ?_ ?_
  · exact t_X12_writeNote_32  a1
  · refine sm_kR (i := 13) ?_
    refine sm_wc (t_X12_writeWord 13) fun _ => ?_
    refine sm_wc (t_X12_writeRuns a1 (2 : Int32)) fun _ => ?_
    exact t_X12_writeNote_32  a1
def N12_feed_75 (k22 : Int32 → Int32 → Int32 → Int32 → Int32 → Int32 → NM Int32) (x1 : Int32) (x2 : Int32) (x3 : Int32) (x4 : Int32) (x5 : Int32) (x6 : Int32) (y0 : Int32) : NM Int32 :=
  nb (ngI 1) fun v1 =>
  nb (nrI x6 (4 : Int32)) fun v2 =>
  nb (nsI 0 v1 ((y0 >>> (((24 : Int32) - ((8 : Int32) * v2)) &&& 31)) &&& (255 : Int32))) fun _ =>
  nb (ngI 1) fun v3 =>
  nb (npI 1 (v3 + (1 : Int32))) fun _ =>
  (k22 x1 x2 x3 x4 x5 (x6 + (1 : Int32)))
def N12_feed_119   : NM Int32 :=
  nb (ngI 1) fun v1 =>
  nb (N12_fine v1) fun v2 =>
  nr v2
def N12_feed_22_st  (k22 : Int32 → Int32 → Int32 → Int32 → Int32 → Int32 → NM Int32) (x1 : Int32) (x2 : Int32) (x3 : Int32) (x4 : Int32) (x5 : Int32) (x6 : Int32) : NM Int32 :=
  if (20 : Int32) ≤ x6 then ((N12_feed_119  )) else (if (4 : Int32) ≤ x6 then (if (8 : Int32) ≤ x6 then (if (12 : Int32) ≤ x6 then (if (16 : Int32) ≤ x6 then ((N12_feed_75 k22 x1 x2 x3 x4 x5 x6 x5)) else ((N12_feed_75 k22 x1 x2 x3 x4 x5 x6 x4))) else ((N12_feed_75 k22 x1 x2 x3 x4 x5 x6 x3))) else ((N12_feed_75 k22 x1 x2 x3 x4 x5 x6 x2))) else ((N12_feed_75 k22 x1 x2 x3 x4 x5 x6 x1)))
def N12_feed_22  : Nat → Int32 → Int32 → Int32 → Int32 → Int32 → Int32 → NM Int32
  | 0 => fun _ _ _ _ _ _ => nf
  | n + 1 => fun x1 x2 x3 x4 x5 x6 => N12_feed_22_st  (N12_feed_22  n) x1 x2 x3 x4 x5 x6
def N12_feed (a1 : Int32) (a2 : Int32) (a3 : Int32) (a4 : Int32) (a5 : Int32) : NM Int32 :=
  nb (ngI 1) fun v1 =>
  if (v1 + (20 : Int32)) ≤ (120 : Int32) then ((N12_feed_22  LFU a1 a2 a3 a4 a5 (0 : Int32))) else (nb (N12_no (9 : Int32)) fun v2 =>
  nr v2)
theorem t_X12_feed_75 {m : Nat} {rf : Nat → Option Nat} {k22 : Int32 → Int32 → Int32 → Int32 → Int32 → Int32 → NM Int32} (K22 : Nat → Int32 → Int32 → Int32 → Int32 → Int32 → Int32 → MM Int32) (hk22 : ∀ (x1 : Int32) (x2 : Int32) (x3 : Int32) (x4 : Int32) (x5 : Int32) (x6 : Int32), Sm m rf (K22 m x1 x2 x3 x4 x5 x6) (k22 x1 x2 x3 x4 x5 x6)) (x1 : Int32) (x2 : Int32) (x3 : Int32) (x4 : Int32) (x5 : Int32) (x6 : Int32) (y0 : Int32) : Sm m rf (X12_feed_75 K22 m x1 x2 x3 x4 x5 x6 y0) (N12_feed_75 k22 x1 x2 x3 x4 x5 x6 y0) := by
  unfold X12_feed_75 N12_feed_75
  refine sm_gR (k := 0) (by decide) rfl ?_
  refine sm_gI (k := 1) (by decide) rfl fun v1 => ?_
  refine sm_rI fun v2 => ?_
  refine sm_sI ?_
  refine sm_gI (k := 1) (by decide) rfl fun v3 => ?_
  refine sm_pI (k := 1) (by decide) rfl ?_
  exact hk22 x1 x2 x3 x4 x5 (x6 + (1 : Int32))
theorem t_X12_feed_119 {m : Nat} {rf : Nat → Option Nat}  : Sm m rf (X12_feed_119  m) (N12_feed_119  ) := by
  unfold X12_feed_119 N12_feed_119
  refine sm_gI (k := 1) (by decide) rfl fun v1 => ?_
  refine sm_wc (t_X12_fine v1) fun v2 => ?_
  exact sm_ret
theorem t_X12_feed_22_st {m : Nat} {rf : Nat → Option Nat} {k22 : Int32 → Int32 → Int32 → Int32 → Int32 → Int32 → NM Int32} (K22 : Nat → Int32 → Int32 → Int32 → Int32 → Int32 → Int32 → MM Int32) (hk22 : ∀ (x1 : Int32) (x2 : Int32) (x3 : Int32) (x4 : Int32) (x5 : Int32) (x6 : Int32), Sm m rf (K22 m x1 x2 x3 x4 x5 x6) (k22 x1 x2 x3 x4 x5 x6)) (x1 : Int32) (x2 : Int32) (x3 : Int32) (x4 : Int32) (x5 : Int32) (x6 : Int32) : Sm m rf (X12_feed_22_st  K22 m x1 x2 x3 x4 x5 x6) (N12_feed_22_st  k22 x1 x2 x3 x4 x5 x6) := by
  unfold X12_feed_22_st N12_feed_22_st
  refine sm_ite ?_ ?_
  · exact t_X12_feed_119  
  · refine sm_ite ?_ ?_
    · refine sm_ite ?_ ?_
      · refine sm_ite ?_ ?_
        · refine sm_ite ?_ ?_
          · exact t_X12_feed_75 _ hk22 x1 x2 x3 x4 x5 x6 x5
          · exact t_X12_feed_75 _ hk22 x1 x2 x3 x4 x5 x6 x4
        · exact t_X12_feed_75 _ hk22 x1 x2 x3 x4 x5 x6 x3
      · exact t_X12_feed_75 _ hk22 x1 x2 x3 x4 x5 x6 x2
    · exact t_X12_feed_75 _ hk22 x1 x2 x3 x4 x5 x6 x1
theorem t_X12_feed_22 {m : Nat} {rf : Nat → Option Nat} : ∀ (n : Nat) (x1 : Int32) (x2 : Int32) (x3 : Int32) (x4 : Int32) (x5 : Int32) (x6 : Int32), Sm m rf (X12_feed_22  n m x1 x2 x3 x4 x5 x6) (N12_feed_22  n x1 x2 x3 x4 x5 x6) := by
  intro n
  induction n with
  | zero => intro x1 x2 x3 x4 x5 x6; exact sm_mf
  | succ n ih => intro x1 x2 x3 x4 x5 x6; exact t_X12_feed_22_st  _ ih x1 x2 x3 x4 x5 x6
theorem t_X12_feed {m : Nat} {rf : Nat → Option Nat} (a1 : Int32) (a2 : Int32) (a3 : Int32) (a4 : Int32) (a5 : Int32) : Sm m rf (X12_feed m a1 a2 a3 a4 a5) (N12_feed a1 a2 a3 a4 a5) := by
  unfold X12_feed N12_feed
  refine sm_gI (k := 1) (by decide) rfl fun v1 => ?_
  refine sm_ite ?_ ?_
  · exact t_X12_feed_22  LFU a1 a2 a3 a4 a5 (0 : Int32)
  · refine sm_wc (t_X12_no (9 : Int32)) fun v2 => ?_
    exact sm_ret
def N12_end (a1 : Int32) : NM Int32 :=
  nb (ngI 1) fun v1 =>
  nb (N12_isIn a1 (0 : Int32) v1) fun v2 =>
  if v2 = 0 then (nb (N12_no (3 : Int32)) fun v3 =>
  nr v3) else (nb (npI 1 a1) fun _ =>
  nb (N12_fine a1) fun v4 =>
  nr v4)
theorem t_X12_end {m : Nat} {rf : Nat → Option Nat} (a1 : Int32) : Sm m rf (X12_end m a1) (N12_end a1) := by
  unfold X12_end N12_end
  refine sm_gI (k := 1) (by decide) rfl fun v1 => ?_
  refine sm_cal (t_X12_isIn a1 (0 : Int32) v1) fun v2 => ?_
  refine sm_ite ?_ ?_
  · refine sm_wc (t_X12_no (3 : Int32)) fun v3 => ?_
    exact sm_ret
  · refine sm_pI (k := 1) (by decide) rfl ?_
    refine sm_wc (t_X12_fine a1) fun v4 => ?_
    exact sm_ret
def N12_book_166 (k110 : Int32 → Int32 → NM Int32) (k125 : Int32 → Int32 → Int32 → NM Int32) (x1 : Int32) (x2 : Int32) (x3 : Int32) (y0 : Int32) (y1 : Int32) (y2 : Int32) : NM Int32 :=
  nb (N12_add y2 y1 y0) fun _ =>
  (k125 x1 x2 (x3 + (1 : Int32)))
def N12_book_175 (k110 : Int32 → Int32 → NM Int32) (x1 : Int32) (x2 : Int32) : NM Int32 :=
  (k110 x1 (x2 + (1 : Int32)))
def N12_book_125_st (k110 : Int32 → Int32 → NM Int32) (k125 : Int32 → Int32 → Int32 → NM Int32) (x1 : Int32) (x2 : Int32) (x3 : Int32) : NM Int32 :=
  nb (naI 27 x2) fun v1 =>
  if v1 < x3 then ((N12_book_175 k110 x1 x2)) else (nb (naI 26 x2) fun v2 =>
  nb (nrI (x3 - v2) (2 : Int32)) fun v3 =>
  if v3 = 0 then (nb (naI 29 x2) fun v4 =>
  (N12_book_166 k110 k125 x1 x2 x3 v4 x3 x1)) else (nb (naI 30 x2) fun v5 =>
  (N12_book_166 k110 k125 x1 x2 x3 v5 x3 x1)))
def N12_book_125 (k110 : Int32 → Int32 → NM Int32) : Nat → Int32 → Int32 → Int32 → NM Int32
  | 0 => fun _ _ _ => nf
  | n + 1 => fun x1 x2 x3 => N12_book_125_st k110 (N12_book_125 k110 n) x1 x2 x3
def N12_book_203  (x1 : Int32) : NM Int32 :=
  nb (N12_isMade x1) fun v1 =>
  nr v1
def N12_book_183_st  (k183 : Int32 → Int32 → NM Int32) (x1 : Int32) (x2 : Int32) : NM Int32 :=
  nb (ngI 25) fun v1 =>
  if v1 ≤ x2 then ((N12_book_203  x1)) else (nb (N12_apply x1 x2) fun _ =>
  (k183 x1 (x2 + (1 : Int32))))
def N12_book_183  : Nat → Int32 → Int32 → NM Int32
  | 0 => fun _ _ => nf
  | n + 1 => fun x1 x2 => N12_book_183_st  (N12_book_183  n) x1 x2
def N12_book_181  (x1 : Int32) : NM Int32 :=
  (N12_book_183  LFU x1 (0 : Int32))
def N12_book_110_st  (k110 : Int32 → Int32 → NM Int32) (x1 : Int32) (x2 : Int32) : NM Int32 :=
  nb (ngI 24) fun v1 =>
  if v1 ≤ x2 then ((N12_book_181  x1)) else (nb (naI 26 x2) fun v2 =>
  (N12_book_125 k110 LFU x1 x2 v2))
def N12_book_110  : Nat → Int32 → Int32 → NM Int32
  | 0 => fun _ _ => nf
  | n + 1 => fun x1 x2 => N12_book_110_st  (N12_book_110  n) x1 x2
def N12_book_46   : NM Int32 :=
  nb (N12_ends ) fun v1 =>
  if v1 = 0 then (nb (N12_no (2 : Int32)) fun v2 =>
  nr v2) else (nb (N12_faultOfAll ) fun v3 =>
  nb (npI 4 v3) fun _ =>
  nb (ngI 4) fun v4 =>
  if v4 ≤ 0 then (nb (ngI 5) fun v5 =>
  if v5 = (8 : Int32) then (nb (N12_no (9 : Int32)) fun v6 =>
  nr v6) else (nb (ngI 5) fun v7 =>
  nb (nsI 6 v7 (0 : Int32)) fun _ =>
  (N12_book_110  LFU v7 (0 : Int32)))) else (nb (N12_no (4 : Int32)) fun v8 =>
  nr v8))
def N12_book_25_st  (k25 : NM Int32)  : NM Int32 :=
  nb (ngI 23) fun v1 =>
  if v1 = 0 then ((N12_book_46  )) else (nb (ngI 21) fun v2 =>
  if v2 = 0 then ((N12_book_46  )) else (nb (N12_readGroup ) fun _ =>
  (k25 )))
def N12_book_25  : Nat → NM Int32
  | 0 => nf
  | n + 1 => N12_book_25_st  (N12_book_25  n) 
def N12_book  : NM Int32 :=
  nb (N12_begins ) fun _ =>
  nb (npI 24 (0 : Int32)) fun _ =>
  nb (npI 25 (0 : Int32)) fun _ =>
  nb (nsI 31 (0 : Int32) (0 : Int32)) fun _ =>
  nb (N12_readGroup ) fun _ =>
  (N12_book_25  LFU )
theorem t_X12_book_166 {m : Nat} {rf : Nat → Option Nat} {k110 : Int32 → Int32 → NM Int32} (K110 : Nat → Int32 → Int32 → MM Int32) (hk110 : ∀ (x1 : Int32) (x2 : Int32), Sm m rf (K110 m x1 x2) (k110 x1 x2)) {k125 : Int32 → Int32 → Int32 → NM Int32} (K125 : Nat → Int32 → Int32 → Int32 → MM Int32) (hk125 : ∀ (x1 : Int32) (x2 : Int32) (x3 : Int32), Sm m rf (K125 m x1 x2 x3) (k125 x1 x2 x3)) (x1 : Int32) (x2 : Int32) (x3 : Int32) (y0 : Int32) (y1 : Int32) (y2 : Int32) : Sm m rf (X12_book_166 K110 K125 m x1 x2 x3 y0 y1 y2) (N12_book_166 k110 k125 x1 x2 x3 y0 y1 y2) := by
  unfold X12_book_166 N12_book_166
  refine sm_wc (t_X12_add y2 y1 y0) fun _ => ?_
  exact hk125 x1 x2 (x3 + (1 : Int32))
theorem t_X12_book_175 {m : Nat} {rf : Nat → Option Nat} {k110 : Int32 → Int32 → NM Int32} (K110 : Nat → Int32 → Int32 → MM Int32) (hk110 : ∀ (x1 : Int32) (x2 : Int32), Sm m rf (K110 m x1 x2) (k110 x1 x2)) (x1 : Int32) (x2 : Int32) : Sm m rf (X12_book_175 K110 m x1 x2) (N12_book_175 k110 x1 x2) := by
  unfold X12_book_175 N12_book_175
  exact hk110 x1 (x2 + (1 : Int32))
theorem t_X12_book_125_st {m : Nat} {rf : Nat → Option Nat} {k110 : Int32 → Int32 → NM Int32} (K110 : Nat → Int32 → Int32 → MM Int32) (hk110 : ∀ (x1 : Int32) (x2 : Int32), Sm m rf (K110 m x1 x2) (k110 x1 x2)) {k125 : Int32 → Int32 → Int32 → NM Int32} (K125 : Nat → Int32 → Int32 → Int32 → MM Int32) (hk125 : ∀ (x1 : Int32) (x2 : Int32) (x3 : Int32), Sm m rf (K125 m x1 x2 x3) (k125 x1 x2 x3)) (x1 : Int32) (x2 : Int32) (x3 : Int32) : Sm m rf (X12_book_125_st K110 K125 m x1 x2 x3) (N12_book_125_st k110 k125 x1 x2 x3) := by
  unfold X12_book_125_st N12_book_125_st
  refine sm_gR (k := 27) (by decide) rfl ?_
  refine sm_aI fun v1 => ?_
  refine sm_ite ?_ ?_
  · exact t_X12_book_175 _ hk110 x1 x2
  · refine sm_gR (k := 26) (by decide) rfl ?_
    refine sm_aI fun v2 => ?_
    refine sm_rI fun v3 => ?_
    refine sm_ite ?_ ?_
    · refine sm_gR (k := 29) (by decide) rfl ?_
      refine sm_aI fun v4 => ?_
      exact t_X12_book_166 _ hk110 _ hk125 x1 x2 x3 v4 x3 x1
    · refine sm_gR (k := 30) (by decide) rfl ?_
      refine sm_aI fun v5 => ?_
      exact t_X12_book_166 _ hk110 _ hk125 x1 x2 x3 v5 x3 x1
theorem t_X12_book_125 {m : Nat} {rf : Nat → Option Nat} {k110 : Int32 → Int32 → NM Int32} (K110 : Nat → Int32 → Int32 → MM Int32) (hk110 : ∀ (x1 : Int32) (x2 : Int32), Sm m rf (K110 m x1 x2) (k110 x1 x2)) : ∀ (n : Nat) (x1 : Int32) (x2 : Int32) (x3 : Int32), Sm m rf (X12_book_125 K110 n m x1 x2 x3) (N12_book_125 k110 n x1 x2 x3) := by
  intro n
  induction n with
  | zero => intro x1 x2 x3; exact sm_mf
  | succ n ih => intro x1 x2 x3; exact t_X12_book_125_st _ hk110 _ ih x1 x2 x3
theorem t_X12_book_203 {m : Nat} {rf : Nat → Option Nat} (x1 : Int32) : Sm m rf (X12_book_203  m x1) (N12_book_203  x1) := by
  unfold X12_book_203 N12_book_203
  refine sm_wc (t_X12_isMade x1) fun v1 => ?_
  exact sm_ret
theorem t_X12_book_183_st {m : Nat} {rf : Nat → Option Nat} {k183 : Int32 → Int32 → NM Int32} (K183 : Nat → Int32 → Int32 → MM Int32) (hk183 : ∀ (x1 : Int32) (x2 : Int32), Sm m rf (K183 m x1 x2) (k183 x1 x2)) (x1 : Int32) (x2 : Int32) : Sm m rf (X12_book_183_st  K183 m x1 x2) (N12_book_183_st  k183 x1 x2) := by
  unfold X12_book_183_st N12_book_183_st
  refine sm_gI (k := 25) (by decide) rfl fun v1 => ?_
  refine sm_ite ?_ ?_
  · exact t_X12_book_203  x1
  · refine sm_wc (t_X12_apply x1 x2) fun _ => ?_
    exact hk183 x1 (x2 + (1 : Int32))
theorem t_X12_book_183 {m : Nat} {rf : Nat → Option Nat} : ∀ (n : Nat) (x1 : Int32) (x2 : Int32), Sm m rf (X12_book_183  n m x1 x2) (N12_book_183  n x1 x2) := by
  intro n
  induction n with
  | zero => intro x1 x2; exact sm_mf
  | succ n ih => intro x1 x2; exact t_X12_book_183_st  _ ih x1 x2
theorem t_X12_book_181 {m : Nat} {rf : Nat → Option Nat} (x1 : Int32) : Sm m rf (X12_book_181  m x1) (N12_book_181  x1) := by
  unfold X12_book_181 N12_book_181
  exact t_X12_book_183  LFU x1 (0 : Int32)
theorem t_X12_book_110_st {m : Nat} {rf : Nat → Option Nat} {k110 : Int32 → Int32 → NM Int32} (K110 : Nat → Int32 → Int32 → MM Int32) (hk110 : ∀ (x1 : Int32) (x2 : Int32), Sm m rf (K110 m x1 x2) (k110 x1 x2)) (x1 : Int32) (x2 : Int32) : Sm m rf (X12_book_110_st  K110 m x1 x2) (N12_book_110_st  k110 x1 x2) := by
  unfold X12_book_110_st N12_book_110_st
  refine sm_gI (k := 24) (by decide) rfl fun v1 => ?_
  refine sm_ite ?_ ?_
  · exact t_X12_book_181  x1
  · refine sm_gR (k := 26) (by decide) rfl ?_
    refine sm_aI fun v2 => ?_
    exact t_X12_book_125 _ hk110 LFU x1 x2 v2
theorem t_X12_book_110 {m : Nat} {rf : Nat → Option Nat} : ∀ (n : Nat) (x1 : Int32) (x2 : Int32), Sm m rf (X12_book_110  n m x1 x2) (N12_book_110  n x1 x2) := by
  intro n
  induction n with
  | zero => intro x1 x2; exact sm_mf
  | succ n ih => intro x1 x2; exact t_X12_book_110_st  _ ih x1 x2
theorem t_X12_book_46 {m : Nat} {rf : Nat → Option Nat}  : Sm m rf (X12_book_46  m) (N12_book_46  ) := by
  unfold X12_book_46 N12_book_46
  refine sm_wc (t_X12_ends ) fun v1 => ?_
  refine sm_ite ?_ ?_
  · refine sm_wc (t_X12_no (2 : Int32)) fun v2 => ?_
    exact sm_ret
  · refine sm_wc (t_X12_faultOfAll ) fun v3 => ?_
    refine sm_pI (k := 4) (by decide) rfl ?_
    refine sm_gI (k := 4) (by decide) rfl fun v4 => ?_
    refine sm_ite ?_ ?_
    · refine sm_gI (k := 5) (by decide) rfl fun v5 => ?_
      refine sm_ite ?_ ?_
      · refine sm_wc (t_X12_no (9 : Int32)) fun v6 => ?_
        exact sm_ret
      · refine sm_gI (k := 5) (by decide) rfl fun v7 => ?_
        refine sm_gR (k := 6) (by decide) rfl ?_
        refine sm_sI ?_
        exact t_X12_book_110  LFU v7 (0 : Int32)
    · refine sm_wc (t_X12_no (4 : Int32)) fun v8 => ?_
      exact sm_ret
theorem t_X12_book_25_st {m : Nat} {rf : Nat → Option Nat} {k25 : NM Int32} (K25 : Nat → MM Int32) (hk25 : Sm m rf (K25 m) (k25 ))  : Sm m rf (X12_book_25_st  K25 m) (N12_book_25_st  k25 ) := by
  unfold X12_book_25_st N12_book_25_st
  refine sm_gI (k := 23) (by decide) rfl fun v1 => ?_
  refine sm_ite ?_ ?_
  · exact t_X12_book_46  
  · refine sm_gI (k := 21) (by decide) rfl fun v2 => ?_
    refine sm_ite ?_ ?_
    · exact t_X12_book_46  
    · refine sm_wc (t_X12_readGroup ) fun _ => ?_
      exact hk25 
theorem t_X12_book_25 {m : Nat} {rf : Nat → Option Nat} : ∀ (n : Nat) , Sm m rf (X12_book_25  n m) (N12_book_25  n ) := by
  intro n
  induction n with
  | zero => exact sm_mf
  | succ n ih => exact t_X12_book_25_st  _ ih 
theorem t_X12_book {m : Nat} {rf : Nat → Option Nat}  : Sm m rf (X12_book m) (N12_book ) := by
  unfold X12_book N12_book
  refine sm_wc (t_X12_begins ) fun _ => ?_
  refine sm_pI (k := 24) (by decide) rfl ?_
  refine sm_pI (k := 25) (by decide) rfl ?_
  refine sm_gR (k := 31) (by decide) rfl ?_
  refine sm_sI ?_
  refine sm_wc (t_X12_readGroup ) fun _ => ?_
  exact t_X12_book_25  LFU 
def N12_faultOfChanges_155 (k84 : Int32 → Int32 → Int32 → NM Int32) (x1 : Int32) (x3 : Int32) (y0 : Int32) : NM Int32 :=
  (k84 x1 y0 (x3 + (1 : Int32)))
def N12_faultOfChanges_150 (k84 : Int32 → Int32 → Int32 → NM Int32) (x1 : Int32) (x3 : Int32) : NM Int32 :=
  (N12_faultOfChanges_155 k84 x1 x3 (1 : Int32))
def N12_faultOfChanges_147 (k84 : Int32 → Int32 → Int32 → NM Int32) (x1 : Int32) (x3 : Int32) (y0 : Int32) : NM Int32 :=
  if y0 ≤ 0 then ((N12_faultOfChanges_155 k84 x1 x3 (0 : Int32))) else ((N12_faultOfChanges_150 k84 x1 x3))
def N12_faultOfChanges_162  (x2 : Int32) : NM Int32 :=
  if x2 = 0 then (nr (0 : Int32)) else (nr (6 : Int32))
def N12_faultOfChanges_84_st  (k84 : Int32 → Int32 → Int32 → NM Int32) (x1 : Int32) (x2 : Int32) (x3 : Int32) : NM Int32 :=
  nb (ngI 25) fun v1 =>
  if v1 ≤ x3 then ((N12_faultOfChanges_162  x2)) else (nb (naI 33 x3) fun v2 =>
  nb (N12_gatheringOf x1 v2) fun v3 =>
  nb (naI 34 x3) fun v4 =>
  nb (N12_spot x1 v3 v4) fun v5 =>
  if x2 = 0 then (nb (naI 32 x3) fun v6 =>
  if v6 = (43 : Int32) then (nb (naI 10 v5) fun v7 =>
  (N12_faultOfChanges_147 k84 x1 x3 v7)) else (nb (naI 9 v5) fun v8 =>
  (N12_faultOfChanges_147 k84 x1 x3 v8))) else ((N12_faultOfChanges_150 k84 x1 x3)))
def N12_faultOfChanges_84  : Nat → Int32 → Int32 → Int32 → NM Int32
  | 0 => fun _ _ _ => nf
  | n + 1 => fun x1 x2 x3 => N12_faultOfChanges_84_st  (N12_faultOfChanges_84  n) x1 x2 x3
def N12_faultOfChanges_58  (x1 : Int32) : NM Int32 :=
  nb (ngI 25) fun v1 =>
  nb (N12_isFewPut (0 : Int32) v1) fun v2 =>
  if v2 = 0 then (nr (5 : Int32)) else (nb (ngI 25) fun v3 =>
  nb (N12_isTwice (0 : Int32) v3) fun v4 =>
  (N12_faultOfChanges_84  LFU x1 v4 (0 : Int32)))
def N12_faultOfChanges_2_st  (k2 : Int32 → Int32 → NM Int32) (x1 : Int32) (x2 : Int32) : NM Int32 :=
  nb (ngI 25) fun v1 =>
  if v1 ≤ x2 then ((N12_faultOfChanges_58  x1)) else (nb (naI 33 x2) fun v2 =>
  nb (N12_gatheringOf x1 v2) fun v3 =>
  if v3 < 0 then (nr (4 : Int32)) else (nb (naI 34 x2) fun v4 =>
  nb (naI 8 ((x1 * (71 : Int32)) + v3)) fun v5 =>
  nb (N12_isIn v4 (1 : Int32) v5) fun v6 =>
  if v6 = 0 then (nr (4 : Int32)) else ((k2 x1 (x2 + (1 : Int32))))))
def N12_faultOfChanges_2  : Nat → Int32 → Int32 → NM Int32
  | 0 => fun _ _ => nf
  | n + 1 => fun x1 x2 => N12_faultOfChanges_2_st  (N12_faultOfChanges_2  n) x1 x2
def N12_faultOfChanges (a1 : Int32) : NM Int32 :=
  (N12_faultOfChanges_2  LFU a1 (0 : Int32))
theorem t_X12_faultOfChanges_155 {m : Nat} {rf : Nat → Option Nat} {k84 : Int32 → Int32 → Int32 → NM Int32} (K84 : Nat → Int32 → Int32 → Int32 → MM Int32) (hk84 : ∀ (x1 : Int32) (x2 : Int32) (x3 : Int32), Sm m rf (K84 m x1 x2 x3) (k84 x1 x2 x3)) (x1 : Int32) (x3 : Int32) (y0 : Int32) : Sm m rf (X12_faultOfChanges_155 K84 m x1 x3 y0) (N12_faultOfChanges_155 k84 x1 x3 y0) := by
  unfold X12_faultOfChanges_155 N12_faultOfChanges_155
  exact hk84 x1 y0 (x3 + (1 : Int32))
theorem t_X12_faultOfChanges_150 {m : Nat} {rf : Nat → Option Nat} {k84 : Int32 → Int32 → Int32 → NM Int32} (K84 : Nat → Int32 → Int32 → Int32 → MM Int32) (hk84 : ∀ (x1 : Int32) (x2 : Int32) (x3 : Int32), Sm m rf (K84 m x1 x2 x3) (k84 x1 x2 x3)) (x1 : Int32) (x3 : Int32) : Sm m rf (X12_faultOfChanges_150 K84 m x1 x3) (N12_faultOfChanges_150 k84 x1 x3) := by
  unfold X12_faultOfChanges_150 N12_faultOfChanges_150
  exact t_X12_faultOfChanges_155 _ hk84 x1 x3 (1 : Int32)
theorem t_X12_faultOfChanges_147 {m : Nat} {rf : Nat → Option Nat} {k84 : Int32 → Int32 → Int32 → NM Int32} (K84 : Nat → Int32 → Int32 → Int32 → MM Int32) (hk84 : ∀ (x1 : Int32) (x2 : Int32) (x3 : Int32), Sm m rf (K84 m x1 x2 x3) (k84 x1 x2 x3)) (x1 : Int32) (x3 : Int32) (y0 : Int32) : Sm m rf (X12_faultOfChanges_147 K84 m x1 x3 y0) (N12_faultOfChanges_147 k84 x1 x3 y0) := by
  unfold X12_faultOfChanges_147 N12_faultOfChanges_147
  refine sm_ite ?_ ?_
  · exact t_X12_faultOfChanges_155 _ hk84 x1 x3 (0 : Int32)
  · exact t_X12_faultOfChanges_150 _ hk84 x1 x3
theorem t_X12_faultOfChanges_162 {m : Nat} {rf : Nat → Option Nat} (x2 : Int32) : Sm m rf (X12_faultOfChanges_162  x2) (N12_faultOfChanges_162  x2) := by
  unfold X12_faultOfChanges_162 N12_faultOfChanges_162
  refine sm_ite ?_ ?_
  · exact sm_ret
  · exact sm_ret
theorem t_X12_faultOfChanges_84_st {m : Nat} {rf : Nat → Option Nat} {k84 : Int32 → Int32 → Int32 → NM Int32} (K84 : Nat → Int32 → Int32 → Int32 → MM Int32) (hk84 : ∀ (x1 : Int32) (x2 : Int32) (x3 : Int32), Sm m rf (K84 m x1 x2 x3) (k84 x1 x2 x3)) (x1 : Int32) (x2 : Int32) (x3 : Int32) : Sm m rf (X12_faultOfChanges_84_st  K84 m x1 x2 x3) (N12_faultOfChanges_84_st  k84 x1 x2 x3) := by
  unfold X12_faultOfChanges_84_st N12_faultOfChanges_84_st
  refine sm_gI (k := 25) (by decide) rfl fun v1 => ?_
  refine sm_ite ?_ ?_
  · exact t_X12_faultOfChanges_162  x2
  · refine sm_gR (k := 33) (by decide) rfl ?_
    refine sm_aI fun v2 => ?_
    refine sm_wc (t_X12_gatheringOf x1 v2) fun v3 => ?_
    refine sm_gR (k := 34) (by decide) rfl ?_
    refine sm_aI fun v4 => ?_
    refine sm_cal (t_X12_spot x1 v3 v4) fun v5 => ?_
    refine sm_ite ?_ ?_
    · refine sm_gR (k := 32) (by decide) rfl ?_
      refine sm_aI fun v6 => ?_
      refine sm_ite ?_ ?_
      · refine sm_gR (k := 10) (by decide) rfl ?_
        refine sm_aI fun v7 => ?_
        exact t_X12_faultOfChanges_147 _ hk84 x1 x3 v7
      · refine sm_gR (k := 9) (by decide) rfl ?_
        refine sm_aI fun v8 => ?_
        exact t_X12_faultOfChanges_147 _ hk84 x1 x3 v8
    · exact t_X12_faultOfChanges_150 _ hk84 x1 x3
theorem t_X12_faultOfChanges_84 {m : Nat} {rf : Nat → Option Nat} : ∀ (n : Nat) (x1 : Int32) (x2 : Int32) (x3 : Int32), Sm m rf (X12_faultOfChanges_84  n m x1 x2 x3) (N12_faultOfChanges_84  n x1 x2 x3) := by
  intro n
  induction n with
  | zero => intro x1 x2 x3; exact sm_mf
  | succ n ih => intro x1 x2 x3; exact t_X12_faultOfChanges_84_st  _ ih x1 x2 x3
theorem t_X12_faultOfChanges_58 {m : Nat} {rf : Nat → Option Nat} (x1 : Int32) : Sm m rf (X12_faultOfChanges_58  m x1) (N12_faultOfChanges_58  x1) := by
  unfold X12_faultOfChanges_58 N12_faultOfChanges_58
  refine sm_gI (k := 25) (by decide) rfl fun v1 => ?_
  refine sm_wc (t_X12_isFewPut (0 : Int32) v1) fun v2 => ?_
  refine sm_ite ?_ ?_
  · exact sm_ret
  · refine sm_gI (k := 25) (by decide) rfl fun v3 => ?_
    refine sm_wc (t_X12_isTwice (0 : Int32) v3) fun v4 => ?_
    exact t_X12_faultOfChanges_84  LFU x1 v4 (0 : Int32)
theorem t_X12_faultOfChanges_2_st {m : Nat} {rf : Nat → Option Nat} {k2 : Int32 → Int32 → NM Int32} (K2 : Nat → Int32 → Int32 → MM Int32) (hk2 : ∀ (x1 : Int32) (x2 : Int32), Sm m rf (K2 m x1 x2) (k2 x1 x2)) (x1 : Int32) (x2 : Int32) : Sm m rf (X12_faultOfChanges_2_st  K2 m x1 x2) (N12_faultOfChanges_2_st  k2 x1 x2) := by
  unfold X12_faultOfChanges_2_st N12_faultOfChanges_2_st
  refine sm_gI (k := 25) (by decide) rfl fun v1 => ?_
  refine sm_ite ?_ ?_
  · exact t_X12_faultOfChanges_58  x1
  · refine sm_gR (k := 33) (by decide) rfl ?_
    refine sm_aI fun v2 => ?_
    refine sm_wc (t_X12_gatheringOf x1 v2) fun v3 => ?_
    refine sm_ite ?_ ?_
    · exact sm_ret
    · refine sm_gR (k := 34) (by decide) rfl ?_
      refine sm_aI fun v4 => ?_
      refine sm_gR (k := 8) (by decide) rfl ?_
      refine sm_aI fun v5 => ?_
      refine sm_cal (t_X12_isIn v4 (1 : Int32) v5) fun v6 => ?_
      refine sm_ite ?_ ?_
      · exact sm_ret
      · exact hk2 x1 (x2 + (1 : Int32))
theorem t_X12_faultOfChanges_2 {m : Nat} {rf : Nat → Option Nat} : ∀ (n : Nat) (x1 : Int32) (x2 : Int32), Sm m rf (X12_faultOfChanges_2  n m x1 x2) (N12_faultOfChanges_2  n x1 x2) := by
  intro n
  induction n with
  | zero => intro x1 x2; exact sm_mf
  | succ n ih => intro x1 x2; exact t_X12_faultOfChanges_2_st  _ ih x1 x2
theorem t_X12_faultOfChanges {m : Nat} {rf : Nat → Option Nat} (a1 : Int32) : Sm m rf (X12_faultOfChanges m a1) (N12_faultOfChanges a1) := by
  unfold X12_faultOfChanges N12_faultOfChanges
  exact t_X12_faultOfChanges_2  LFU a1 (0 : Int32)
def N12_change_198 (k97 : Int32 → Int32 → Int32 → NM Int32) (x1 : Int32) (x2 : Int32) (x3 : Int32) : NM Int32 :=
  (k97 x1 x2 (x3 + (1 : Int32)))
def N12_change_137_st (k97 : Int32 → Int32 → Int32 → NM Int32) (k137 : Int32 → Int32 → Int32 → Int32 → NM Int32) (x1 : Int32) (x2 : Int32) (x3 : Int32) (x4 : Int32) : NM Int32 :=
  if (12 : Int32) < x4 then ((N12_change_198 k97 x1 x2 x3)) else (nb (N12_spot x2 x3 x4) fun v1 =>
  nb (N12_spot x1 x3 x4) fun v2 =>
  nb (naI 9 v2) fun v3 =>
  nb (nsI 9 v1 v3) fun _ =>
  nb (N12_spot x2 x3 x4) fun v4 =>
  nb (N12_spot x1 x3 x4) fun v5 =>
  nb (naI 10 v5) fun v6 =>
  nb (nsI 10 v4 v6) fun _ =>
  (k137 x1 x2 x3 (x4 + (1 : Int32))))
def N12_change_137 (k97 : Int32 → Int32 → Int32 → NM Int32) : Nat → Int32 → Int32 → Int32 → Int32 → NM Int32
  | 0 => fun _ _ _ _ => nf
  | n + 1 => fun x1 x2 x3 x4 => N12_change_137_st k97 (N12_change_137 k97 n) x1 x2 x3 x4
def N12_change_226  (x2 : Int32) : NM Int32 :=
  nb (N12_isMade x2) fun v1 =>
  nr v1
def N12_change_206_st  (k206 : Int32 → Int32 → NM Int32) (x2 : Int32) (x3 : Int32) : NM Int32 :=
  nb (ngI 25) fun v1 =>
  if v1 ≤ x3 then ((N12_change_226  x2)) else (nb (N12_apply x2 x3) fun _ =>
  (k206 x2 (x3 + (1 : Int32))))
def N12_change_206  : Nat → Int32 → Int32 → NM Int32
  | 0 => fun _ _ => nf
  | n + 1 => fun x2 x3 => N12_change_206_st  (N12_change_206  n) x2 x3
def N12_change_204  (x2 : Int32) : NM Int32 :=
  (N12_change_206  LFU x2 (0 : Int32))
def N12_change_97_st  (k97 : Int32 → Int32 → Int32 → NM Int32) (x1 : Int32) (x2 : Int32) (x3 : Int32) : NM Int32 :=
  nb (naI 6 x1) fun v1 =>
  if v1 ≤ x3 then ((N12_change_204  x2)) else (nb (naI 7 ((x1 * (71 : Int32)) + x3)) fun v2 =>
  nb (naI 8 ((x1 * (71 : Int32)) + x3)) fun v3 =>
  nb (N12_add x2 v2 v3) fun _ =>
  (N12_change_137 k97 LFU x1 x2 x3 (1 : Int32)))
def N12_change_97  : Nat → Int32 → Int32 → Int32 → NM Int32
  | 0 => fun _ _ _ => nf
  | n + 1 => fun x1 x2 x3 => N12_change_97_st  (N12_change_97  n) x1 x2 x3
def N12_change (a1 : Int32) : NM Int32 :=
  nb (N12_isBook a1) fun v1 =>
  if v1 = 0 then (nb (npI 1 (0 : Int32)) fun _ =>
  nb (N12_no (1 : Int32)) fun v2 =>
  nr v2) else (nb (N12_begins ) fun _ =>
  nb (npI 25 (0 : Int32)) fun _ =>
  nb (N12_readChanges ) fun _ =>
  nb (N12_ends ) fun v3 =>
  if v3 = 0 then (nb (N12_no (2 : Int32)) fun v4 =>
  nr v4) else (nb (N12_faultOfChanges a1) fun v5 =>
  nb (npI 4 v5) fun _ =>
  nb (ngI 4) fun v6 =>
  if v6 ≤ 0 then (nb (ngI 5) fun v7 =>
  if v7 = (8 : Int32) then (nb (N12_no (9 : Int32)) fun v8 =>
  nr v8) else (nb (ngI 5) fun v9 =>
  nb (nsI 6 v9 (0 : Int32)) fun _ =>
  (N12_change_97  LFU a1 v9 (0 : Int32)))) else (nb (N12_no (4 : Int32)) fun v10 =>
  nr v10)))
theorem t_X12_change_198 {m : Nat} {rf : Nat → Option Nat} {k97 : Int32 → Int32 → Int32 → NM Int32} (K97 : Nat → Int32 → Int32 → Int32 → MM Int32) (hk97 : ∀ (x1 : Int32) (x2 : Int32) (x3 : Int32), Sm m rf (K97 m x1 x2 x3) (k97 x1 x2 x3)) (x1 : Int32) (x2 : Int32) (x3 : Int32) : Sm m rf (X12_change_198 K97 m x1 x2 x3) (N12_change_198 k97 x1 x2 x3) := by
  unfold X12_change_198 N12_change_198
  exact hk97 x1 x2 (x3 + (1 : Int32))
theorem t_X12_change_137_st {m : Nat} {rf : Nat → Option Nat} {k97 : Int32 → Int32 → Int32 → NM Int32} (K97 : Nat → Int32 → Int32 → Int32 → MM Int32) (hk97 : ∀ (x1 : Int32) (x2 : Int32) (x3 : Int32), Sm m rf (K97 m x1 x2 x3) (k97 x1 x2 x3)) {k137 : Int32 → Int32 → Int32 → Int32 → NM Int32} (K137 : Nat → Int32 → Int32 → Int32 → Int32 → MM Int32) (hk137 : ∀ (x1 : Int32) (x2 : Int32) (x3 : Int32) (x4 : Int32), Sm m rf (K137 m x1 x2 x3 x4) (k137 x1 x2 x3 x4)) (x1 : Int32) (x2 : Int32) (x3 : Int32) (x4 : Int32) : Sm m rf (X12_change_137_st K97 K137 m x1 x2 x3 x4) (N12_change_137_st k97 k137 x1 x2 x3 x4) := by
  unfold X12_change_137_st N12_change_137_st
  refine sm_ite ?_ ?_
  · exact t_X12_change_198 _ hk97 x1 x2 x3
  · refine sm_gR (k := 9) (by decide) rfl ?_
    refine sm_cal (t_X12_spot x2 x3 x4) fun v1 => ?_
    refine sm_gR (k := 9) (by decide) rfl ?_
    refine sm_cal (t_X12_spot x1 x3 x4) fun v2 => ?_
    refine sm_aI fun v3 => ?_
    refine sm_sI ?_
    refine sm_gR (k := 10) (by decide) rfl ?_
    refine sm_cal (t_X12_spot x2 x3 x4) fun v4 => ?_
    refine sm_gR (k := 10) (by decide) rfl ?_
    refine sm_cal (t_X12_spot x1 x3 x4) fun v5 => ?_
    refine sm_aI fun v6 => ?_
    refine sm_sI ?_
    exact hk137 x1 x2 x3 (x4 + (1 : Int32))
theorem t_X12_change_137 {m : Nat} {rf : Nat → Option Nat} {k97 : Int32 → Int32 → Int32 → NM Int32} (K97 : Nat → Int32 → Int32 → Int32 → MM Int32) (hk97 : ∀ (x1 : Int32) (x2 : Int32) (x3 : Int32), Sm m rf (K97 m x1 x2 x3) (k97 x1 x2 x3)) : ∀ (n : Nat) (x1 : Int32) (x2 : Int32) (x3 : Int32) (x4 : Int32), Sm m rf (X12_change_137 K97 n m x1 x2 x3 x4) (N12_change_137 k97 n x1 x2 x3 x4) := by
  intro n
  induction n with
  | zero => intro x1 x2 x3 x4; exact sm_mf
  | succ n ih => intro x1 x2 x3 x4; exact t_X12_change_137_st _ hk97 _ ih x1 x2 x3 x4
theorem t_X12_change_226 {m : Nat} {rf : Nat → Option Nat} (x2 : Int32) : Sm m rf (X12_change_226  m x2) (N12_change_226  x2) := by
  unfold X12_change_226 N12_change_226
  refine sm_wc (t_X12_isMade x2) fun v1 => ?_
  exact sm_ret
theorem t_X12_change_206_st {m : Nat} {rf : Nat → Option Nat} {k206 : Int32 → Int32 → NM Int32} (K206 : Nat → Int32 → Int32 → MM Int32) (hk206 : ∀ (x2 : Int32) (x3 : Int32), Sm m rf (K206 m x2 x3) (k206 x2 x3)) (x2 : Int32) (x3 : Int32) : Sm m rf (X12_change_206_st  K206 m x2 x3) (N12_change_206_st  k206 x2 x3) := by
  unfold X12_change_206_st N12_change_206_st
  refine sm_gI (k := 25) (by decide) rfl fun v1 => ?_
  refine sm_ite ?_ ?_
  · exact t_X12_change_226  x2
  · refine sm_wc (t_X12_apply x2 x3) fun _ => ?_
    exact hk206 x2 (x3 + (1 : Int32))
theorem t_X12_change_206 {m : Nat} {rf : Nat → Option Nat} : ∀ (n : Nat) (x2 : Int32) (x3 : Int32), Sm m rf (X12_change_206  n m x2 x3) (N12_change_206  n x2 x3) := by
  intro n
  induction n with
  | zero => intro x2 x3; exact sm_mf
  | succ n ih => intro x2 x3; exact t_X12_change_206_st  _ ih x2 x3
theorem t_X12_change_204 {m : Nat} {rf : Nat → Option Nat} (x2 : Int32) : Sm m rf (X12_change_204  m x2) (N12_change_204  x2) := by
  unfold X12_change_204 N12_change_204
  exact t_X12_change_206  LFU x2 (0 : Int32)
theorem t_X12_change_97_st {m : Nat} {rf : Nat → Option Nat} {k97 : Int32 → Int32 → Int32 → NM Int32} (K97 : Nat → Int32 → Int32 → Int32 → MM Int32) (hk97 : ∀ (x1 : Int32) (x2 : Int32) (x3 : Int32), Sm m rf (K97 m x1 x2 x3) (k97 x1 x2 x3)) (x1 : Int32) (x2 : Int32) (x3 : Int32) : Sm m rf (X12_change_97_st  K97 m x1 x2 x3) (N12_change_97_st  k97 x1 x2 x3) := by
  unfold X12_change_97_st N12_change_97_st
  refine sm_gR (k := 6) (by decide) rfl ?_
  refine sm_aI fun v1 => ?_
  refine sm_ite ?_ ?_
  · exact t_X12_change_204  x2
  · refine sm_gR (k := 7) (by decide) rfl ?_
    refine sm_aI fun v2 => ?_
    refine sm_gR (k := 8) (by decide) rfl ?_
    refine sm_aI fun v3 => ?_
    refine sm_wc (t_X12_add x2 v2 v3) fun _ => ?_
    exact t_X12_change_137 _ hk97 LFU x1 x2 x3 (1 : Int32)
theorem t_X12_change_97 {m : Nat} {rf : Nat → Option Nat} : ∀ (n : Nat) (x1 : Int32) (x2 : Int32) (x3 : Int32), Sm m rf (X12_change_97  n m x1 x2 x3) (N12_change_97  n x1 x2 x3) := by
  intro n
  induction n with
  | zero => intro x1 x2 x3; exact sm_mf
  | succ n ih => intro x1 x2 x3; exact t_X12_change_97_st  _ ih x1 x2 x3
theorem t_X12_change {m : Nat} {rf : Nat → Option Nat} (a1 : Int32) : Sm m rf (X12_change m a1) (N12_change a1) := by
  unfold X12_change N12_change
  refine sm_wc (t_X12_isBook a1) fun v1 => ?_
  refine sm_ite ?_ ?_
  · refine sm_pI (k := 1) (by decide) rfl ?_
    refine sm_wc (t_X12_no (1 : Int32)) fun v2 => ?_
    exact sm_ret
  · refine sm_wc (t_X12_begins ) fun _ => ?_
    refine sm_pI (k := 25) (by decide) rfl ?_
    refine sm_wc (t_X12_readChanges ) fun _ => ?_
    refine sm_wc (t_X12_ends ) fun v3 => ?_
    refine sm_ite ?_ ?_
    · refine sm_wc (t_X12_no (2 : Int32)) fun v4 => ?_
      exact sm_ret
    · refine sm_wc (t_X12_faultOfChanges a1) fun v5 => ?_
      refine sm_pI (k := 4) (by decide) rfl ?_
      refine sm_gI (k := 4) (by decide) rfl fun v6 => ?_
      refine sm_ite ?_ ?_
      · refine sm_gI (k := 5) (by decide) rfl fun v7 => ?_
        refine sm_ite ?_ ?_
        · refine sm_wc (t_X12_no (9 : Int32)) fun v8 => ?_
          exact sm_ret
        · refine sm_gI (k := 5) (by decide) rfl fun v9 => ?_
          refine sm_gR (k := 6) (by decide) rfl ?_
          refine sm_sI ?_
          exact t_X12_change_97  LFU a1 v9 (0 : Int32)
      · refine sm_wc (t_X12_no (4 : Int32)) fun v10 => ?_
        exact sm_ret
def N12_readName  : NM Unit :=
  nb (N12_take (2 : Int32)) fun v1 =>
  nb (npI 42 v1) fun _ =>
  nb (N12_take (3 : Int32)) fun v2 =>
  nb (npI 43 v2) fun _ =>
  nb (N12_goes (43 : Int32)) fun v3 =>
  if v3 = 0 then (nb (npI 44 (-1 : Int32)) fun _ =>
  nr ()) else (nb (N12_take (3 : Int32)) fun v4 =>
  nb (npI 44 v4) fun _ =>
  nr ())
theorem t_X12_readName {m : Nat} {rf : Nat → Option Nat}  : Sm m rf (X12_readName m) (N12_readName ) := by
  unfold X12_readName N12_readName
  refine sm_wc (t_X12_take (2 : Int32)) fun v1 => ?_
  refine sm_pI (k := 42) (by decide) rfl ?_
  refine sm_wc (t_X12_take (3 : Int32)) fun v2 => ?_
  refine sm_pI (k := 43) (by decide) rfl ?_
  refine sm_wc (t_X12_goes (43 : Int32)) fun v3 => ?_
  refine sm_ite ?_ ?_
  · refine sm_pI (k := 44) (by decide) rfl ?_
    exact sm_ret
  · refine sm_wc (t_X12_take (3 : Int32)) fun v4 => ?_
    refine sm_pI (k := 44) (by decide) rfl ?_
    exact sm_ret
def N12_named_36  (y0 : Int32) (y1 : Int32) (y2 : Int32) (y3 : Int32) : NM Int32 :=
  nb (N12_placeOf y3 y2 y1 y0) fun v1 =>
  nr v1
def N12_named (a1 : Int32) : NM Int32 :=
  nb (ngI 44) fun v1 =>
  if v1 = 0 then (nr (-1 : Int32)) else (nb (ngI 42) fun v2 =>
  nb (ngI 43) fun v3 =>
  nb (ngI 44) fun v4 =>
  if 0 ≤ v4 then (nb (ngI 44) fun v5 =>
  (N12_named_36  v5 v3 v2 a1)) else ((N12_named_36  (0 : Int32) v3 v2 a1)))
theorem t_X12_named_36 {m : Nat} {rf : Nat → Option Nat} (y0 : Int32) (y1 : Int32) (y2 : Int32) (y3 : Int32) : Sm m rf (X12_named_36  m y0 y1 y2 y3) (N12_named_36  y0 y1 y2 y3) := by
  unfold X12_named_36 N12_named_36
  refine sm_wc (t_X12_placeOf y3 y2 y1 y0) fun v1 => ?_
  exact sm_ret
theorem t_X12_named {m : Nat} {rf : Nat → Option Nat} (a1 : Int32) : Sm m rf (X12_named m a1) (N12_named a1) := by
  unfold X12_named N12_named
  refine sm_gI (k := 44) (by decide) rfl fun v1 => ?_
  refine sm_ite ?_ ?_
  · exact sm_ret
  · refine sm_gI (k := 42) (by decide) rfl fun v2 => ?_
    refine sm_gI (k := 43) (by decide) rfl fun v3 => ?_
    refine sm_gI (k := 44) (by decide) rfl fun v4 => ?_
    refine sm_ite ?_ ?_
    · refine sm_gI (k := 44) (by decide) rfl fun v5 => ?_
      exact t_X12_named_36  v5 v3 v2 a1
    · exact t_X12_named_36  (0 : Int32) v3 v2 a1
def N12_copy_241   : NM Int32 :=
  nb (N12_no (9 : Int32)) fun v1 =>
  nr v1
def N12_copy_312 (k260 : Int32 → Int32 → Int32 → Int32 → Int32 → NM Int32) (x1 : Int32) (x2 : Int32) (x4 : Int32) (x5 : Int32) (x6 : Int32) : NM Int32 :=
  (k260 x1 x2 x4 x5 (x6 + (1 : Int32)))
def N12_copy_275_st (k260 : Int32 → Int32 → Int32 → Int32 → Int32 → NM Int32) (k275 : Int32 → Int32 → Int32 → Int32 → Int32 → Int32 → NM Int32) (x1 : Int32) (x2 : Int32) (x4 : Int32) (x5 : Int32) (x6 : Int32) (x7 : Int32) : NM Int32 :=
  nb (naI 46 x6) fun v1 =>
  if v1 < x7 then ((N12_copy_312 k260 x1 x2 x4 x5 x6)) else (nb (nsI 18 ((x5 * (400 : Int32)) + x4) x7) fun _ =>
  (k275 x1 x2 (x4 + (1 : Int32)) x5 x6 (x7 + (1 : Int32))))
def N12_copy_275 (k260 : Int32 → Int32 → Int32 → Int32 → Int32 → NM Int32) : Nat → Int32 → Int32 → Int32 → Int32 → Int32 → Int32 → NM Int32
  | 0 => fun _ _ _ _ _ _ => nf
  | n + 1 => fun x1 x2 x4 x5 x6 x7 => N12_copy_275_st k260 (N12_copy_275 k260 n) x1 x2 x4 x5 x6 x7
def N12_copy_318  (x1 : Int32) (x4 : Int32) (x5 : Int32) : NM Int32 :=
  nb (nsI 17 x5 x4) fun _ =>
  nb (nsI 16 x5 x1) fun _ =>
  nb (ngI 15) fun v1 =>
  nb (npI 15 (v1 + (1 : Int32))) fun _ =>
  nb (N12_fine x5) fun v2 =>
  nr v2
def N12_copy_260_st  (k260 : Int32 → Int32 → Int32 → Int32 → Int32 → NM Int32) (x1 : Int32) (x2 : Int32) (x4 : Int32) (x5 : Int32) (x6 : Int32) : NM Int32 :=
  if x2 ≤ x6 then ((N12_copy_318  x1 x4 x5)) else (nb (naI 45 x6) fun v1 =>
  (N12_copy_275 k260 LFU x1 x2 x4 x5 x6 v1))
def N12_copy_260  : Nat → Int32 → Int32 → Int32 → Int32 → Int32 → NM Int32
  | 0 => fun _ _ _ _ _ => nf
  | n + 1 => fun x1 x2 x4 x5 x6 => N12_copy_260_st  (N12_copy_260  n) x1 x2 x4 x5 x6
def N12_copy_224  (x1 : Int32) (x2 : Int32) (x4 : Int32) : NM Int32 :=
  nb (ngI 15) fun v1 =>
  if v1 = (16 : Int32) then ((N12_copy_241  )) else (if x4 ≤ (400 : Int32) then (nb (ngI 15) fun v2 =>
  (N12_copy_260  LFU x1 x2 (0 : Int32) v2 (0 : Int32))) else ((N12_copy_241  )))
def N12_copy_190_st  (k190 : Int32 → Int32 → Int32 → Int32 → NM Int32) (x1 : Int32) (x2 : Int32) (x4 : Int32) (x5 : Int32) : NM Int32 :=
  if x2 ≤ x5 then ((N12_copy_224  x1 x2 x4)) else (nb (naI 46 x5) fun v1 =>
  nb (naI 45 x5) fun v2 =>
  (k190 x1 x2 (x4 + ((v1 - v2) + (1 : Int32))) (x5 + (1 : Int32))))
def N12_copy_190  : Nat → Int32 → Int32 → Int32 → Int32 → NM Int32
  | 0 => fun _ _ _ _ => nf
  | n + 1 => fun x1 x2 x4 x5 => N12_copy_190_st  (N12_copy_190  n) x1 x2 x4 x5
def N12_copy_171  (x1 : Int32) (x2 : Int32) (x3 : Int32) (y0 : Int32) : NM Int32 :=
  nb (npI 4 y0) fun _ =>
  if x3 = 0 then ((N12_copy_190  LFU x1 x2 (0 : Int32) (0 : Int32))) else (nb (N12_no (4 : Int32)) fun v1 =>
  nr v1)
def N12_copy_147  (x1 : Int32) (x2 : Int32) (x3 : Int32) : NM Int32 :=
  nb (N12_ends ) fun v1 =>
  if v1 = 0 then (nb (N12_no (2 : Int32)) fun v2 =>
  nr v2) else (if x3 = 0 then ((N12_copy_171  x1 x2 x3 (0 : Int32))) else ((N12_copy_171  x1 x2 x3 (7 : Int32))))
def N12_copy_129 (k27 : Int32 → Int32 → Int32 → NM Int32) (x1 : Int32) (x2 : Int32) (y0 : Int32) : NM Int32 :=
  nb (ngI 23) fun v1 =>
  if v1 = 0 then ((N12_copy_147  x1 (x2 + (1 : Int32)) y0)) else (nb (ngI 21) fun v2 =>
  if v2 = 0 then ((N12_copy_147  x1 (x2 + (1 : Int32)) y0)) else ((k27 x1 (x2 + (1 : Int32)) y0)))
def N12_copy_124 (k27 : Int32 → Int32 → Int32 → NM Int32) (x1 : Int32) (x2 : Int32) : NM Int32 :=
  (N12_copy_129 k27 x1 x2 (1 : Int32))
def N12_copy_128 (k27 : Int32 → Int32 → Int32 → NM Int32) (x1 : Int32) (x2 : Int32) : NM Int32 :=
  (N12_copy_129 k27 x1 x2 (0 : Int32))
def N12_copy_82 (k27 : Int32 → Int32 → Int32 → NM Int32) (x1 : Int32) (x2 : Int32) (x3 : Int32) (x4 : Int32) : NM Int32 :=
  if x3 = 0 then (nb (naI 45 x2) fun v1 =>
  if v1 < 0 then ((N12_copy_124 k27 x1 x2)) else (nb (naI 46 x2) fun v2 =>
  if v2 < 0 then ((N12_copy_124 k27 x1 x2)) else (if x4 = 0 then ((N12_copy_128 k27 x1 x2)) else (nb (naI 46 x2) fun v3 =>
  nb (naI 45 x2) fun v4 =>
  if v4 < v3 then ((N12_copy_128 k27 x1 x2)) else ((N12_copy_124 k27 x1 x2)))))) else ((N12_copy_124 k27 x1 x2))
def N12_copy_27_st  (k27 : Int32 → Int32 → Int32 → NM Int32) (x1 : Int32) (x2 : Int32) (x3 : Int32) : NM Int32 :=
  nb (N12_readName ) fun _ =>
  nb (N12_named x1) fun v1 =>
  nb (nsI 45 x2 v1) fun _ =>
  nb (naI 45 x2) fun v2 =>
  nb (nsI 46 x2 v2) fun _ =>
  nb (N12_goes (45 : Int32)) fun v3 =>
  if v3 = 0 then ((N12_copy_82 k27 x1 x2 x3 v3)) else (nb (N12_readName ) fun _ =>
  nb (N12_named x1) fun v4 =>
  nb (nsI 46 x2 v4) fun _ =>
  (N12_copy_82 k27 x1 x2 x3 v3))
def N12_copy_27  : Nat → Int32 → Int32 → Int32 → NM Int32
  | 0 => fun _ _ _ => nf
  | n + 1 => fun x1 x2 x3 => N12_copy_27_st  (N12_copy_27  n) x1 x2 x3
def N12_copy (a1 : Int32) : NM Int32 :=
  nb (N12_isBook a1) fun v1 =>
  if v1 = 0 then (nb (npI 1 (0 : Int32)) fun _ =>
  nb (N12_no (1 : Int32)) fun v2 =>
  nr v2) else (nb (N12_begins ) fun _ =>
  (N12_copy_27  LFU a1 (0 : Int32) (0 : Int32)))
theorem t_X12_copy_241 {m : Nat} {rf : Nat → Option Nat}  : Sm m rf (X12_copy_241  m) (N12_copy_241  ) := by
  unfold X12_copy_241 N12_copy_241
  refine sm_wc (t_X12_no (9 : Int32)) fun v1 => ?_
  exact sm_ret
theorem t_X12_copy_312 {m : Nat} {rf : Nat → Option Nat} {k260 : Int32 → Int32 → Int32 → Int32 → Int32 → NM Int32} (K260 : Nat → Int32 → Int32 → Int32 → Int32 → Int32 → MM Int32) (hk260 : ∀ (x1 : Int32) (x2 : Int32) (x4 : Int32) (x5 : Int32) (x6 : Int32), Sm m rf (K260 m x1 x2 x4 x5 x6) (k260 x1 x2 x4 x5 x6)) (x1 : Int32) (x2 : Int32) (x4 : Int32) (x5 : Int32) (x6 : Int32) : Sm m rf (X12_copy_312 K260 m x1 x2 x4 x5 x6) (N12_copy_312 k260 x1 x2 x4 x5 x6) := by
  unfold X12_copy_312 N12_copy_312
  exact hk260 x1 x2 x4 x5 (x6 + (1 : Int32))
theorem t_X12_copy_275_st {m : Nat} {rf : Nat → Option Nat} {k260 : Int32 → Int32 → Int32 → Int32 → Int32 → NM Int32} (K260 : Nat → Int32 → Int32 → Int32 → Int32 → Int32 → MM Int32) (hk260 : ∀ (x1 : Int32) (x2 : Int32) (x4 : Int32) (x5 : Int32) (x6 : Int32), Sm m rf (K260 m x1 x2 x4 x5 x6) (k260 x1 x2 x4 x5 x6)) {k275 : Int32 → Int32 → Int32 → Int32 → Int32 → Int32 → NM Int32} (K275 : Nat → Int32 → Int32 → Int32 → Int32 → Int32 → Int32 → MM Int32) (hk275 : ∀ (x1 : Int32) (x2 : Int32) (x4 : Int32) (x5 : Int32) (x6 : Int32) (x7 : Int32), Sm m rf (K275 m x1 x2 x4 x5 x6 x7) (k275 x1 x2 x4 x5 x6 x7)) (x1 : Int32) (x2 : Int32) (x4 : Int32) (x5 : Int32) (x6 : Int32) (x7 : Int32) : Sm m rf (X12_copy_275_st K260 K275 m x1 x2 x4 x5 x6 x7) (N12_copy_275_st k260 k275 x1 x2 x4 x5 x6 x7) := by
  unfold X12_copy_275_st N12_copy_275_st
  refine sm_gR (k := 46) (by decide) rfl ?_
  refine sm_aI fun v1 => ?_
  refine sm_ite ?_ ?_
  · exact t_X12_copy_312 _ hk260 x1 x2 x4 x5 x6
  · refine sm_gR (k := 18) (by decide) rfl ?_
    refine sm_sI ?_
    exact hk275 x1 x2 (x4 + (1 : Int32)) x5 x6 (x7 + (1 : Int32))
theorem t_X12_copy_275 {m : Nat} {rf : Nat → Option Nat} {k260 : Int32 → Int32 → Int32 → Int32 → Int32 → NM Int32} (K260 : Nat → Int32 → Int32 → Int32 → Int32 → Int32 → MM Int32) (hk260 : ∀ (x1 : Int32) (x2 : Int32) (x4 : Int32) (x5 : Int32) (x6 : Int32), Sm m rf (K260 m x1 x2 x4 x5 x6) (k260 x1 x2 x4 x5 x6)) : ∀ (n : Nat) (x1 : Int32) (x2 : Int32) (x4 : Int32) (x5 : Int32) (x6 : Int32) (x7 : Int32), Sm m rf (X12_copy_275 K260 n m x1 x2 x4 x5 x6 x7) (N12_copy_275 k260 n x1 x2 x4 x5 x6 x7) := by
  intro n
  induction n with
  | zero => intro x1 x2 x4 x5 x6 x7; exact sm_mf
  | succ n ih => intro x1 x2 x4 x5 x6 x7; exact t_X12_copy_275_st _ hk260 _ ih x1 x2 x4 x5 x6 x7
theorem t_X12_copy_318 {m : Nat} {rf : Nat → Option Nat} (x1 : Int32) (x4 : Int32) (x5 : Int32) : Sm m rf (X12_copy_318  m x1 x4 x5) (N12_copy_318  x1 x4 x5) := by
  unfold X12_copy_318 N12_copy_318
  refine sm_gR (k := 17) (by decide) rfl ?_
  refine sm_sI ?_
  refine sm_gR (k := 16) (by decide) rfl ?_
  refine sm_sI ?_
  refine sm_gI (k := 15) (by decide) rfl fun v1 => ?_
  refine sm_pI (k := 15) (by decide) rfl ?_
  refine sm_wc (t_X12_fine x5) fun v2 => ?_
  exact sm_ret
theorem t_X12_copy_260_st {m : Nat} {rf : Nat → Option Nat} {k260 : Int32 → Int32 → Int32 → Int32 → Int32 → NM Int32} (K260 : Nat → Int32 → Int32 → Int32 → Int32 → Int32 → MM Int32) (hk260 : ∀ (x1 : Int32) (x2 : Int32) (x4 : Int32) (x5 : Int32) (x6 : Int32), Sm m rf (K260 m x1 x2 x4 x5 x6) (k260 x1 x2 x4 x5 x6)) (x1 : Int32) (x2 : Int32) (x4 : Int32) (x5 : Int32) (x6 : Int32) : Sm m rf (X12_copy_260_st  K260 m x1 x2 x4 x5 x6) (N12_copy_260_st  k260 x1 x2 x4 x5 x6) := by
  unfold X12_copy_260_st N12_copy_260_st
  refine sm_ite ?_ ?_
  · exact t_X12_copy_318  x1 x4 x5
  · refine sm_gR (k := 45) (by decide) rfl ?_
    refine sm_aI fun v1 => ?_
    exact t_X12_copy_275 _ hk260 LFU x1 x2 x4 x5 x6 v1
theorem t_X12_copy_260 {m : Nat} {rf : Nat → Option Nat} : ∀ (n : Nat) (x1 : Int32) (x2 : Int32) (x4 : Int32) (x5 : Int32) (x6 : Int32), Sm m rf (X12_copy_260  n m x1 x2 x4 x5 x6) (N12_copy_260  n x1 x2 x4 x5 x6) := by
  intro n
  induction n with
  | zero => intro x1 x2 x4 x5 x6; exact sm_mf
  | succ n ih => intro x1 x2 x4 x5 x6; exact t_X12_copy_260_st  _ ih x1 x2 x4 x5 x6
theorem t_X12_copy_224 {m : Nat} {rf : Nat → Option Nat} (x1 : Int32) (x2 : Int32) (x4 : Int32) : Sm m rf (X12_copy_224  m x1 x2 x4) (N12_copy_224  x1 x2 x4) := by
  unfold X12_copy_224 N12_copy_224
  refine sm_gI (k := 15) (by decide) rfl fun v1 => ?_
  refine sm_ite ?_ ?_
  · exact t_X12_copy_241  
  · refine sm_ite ?_ ?_
    · refine sm_gI (k := 15) (by decide) rfl fun v2 => ?_
      exact t_X12_copy_260  LFU x1 x2 (0 : Int32) v2 (0 : Int32)
    · exact t_X12_copy_241  
theorem t_X12_copy_190_st {m : Nat} {rf : Nat → Option Nat} {k190 : Int32 → Int32 → Int32 → Int32 → NM Int32} (K190 : Nat → Int32 → Int32 → Int32 → Int32 → MM Int32) (hk190 : ∀ (x1 : Int32) (x2 : Int32) (x4 : Int32) (x5 : Int32), Sm m rf (K190 m x1 x2 x4 x5) (k190 x1 x2 x4 x5)) (x1 : Int32) (x2 : Int32) (x4 : Int32) (x5 : Int32) : Sm m rf (X12_copy_190_st  K190 m x1 x2 x4 x5) (N12_copy_190_st  k190 x1 x2 x4 x5) := by
  unfold X12_copy_190_st N12_copy_190_st
  refine sm_ite ?_ ?_
  · exact t_X12_copy_224  x1 x2 x4
  · refine sm_gR (k := 46) (by decide) rfl ?_
    refine sm_aI fun v1 => ?_
    refine sm_gR (k := 45) (by decide) rfl ?_
    refine sm_aI fun v2 => ?_
    exact hk190 x1 x2 (x4 + ((v1 - v2) + (1 : Int32))) (x5 + (1 : Int32))
theorem t_X12_copy_190 {m : Nat} {rf : Nat → Option Nat} : ∀ (n : Nat) (x1 : Int32) (x2 : Int32) (x4 : Int32) (x5 : Int32), Sm m rf (X12_copy_190  n m x1 x2 x4 x5) (N12_copy_190  n x1 x2 x4 x5) := by
  intro n
  induction n with
  | zero => intro x1 x2 x4 x5; exact sm_mf
  | succ n ih => intro x1 x2 x4 x5; exact t_X12_copy_190_st  _ ih x1 x2 x4 x5
theorem t_X12_copy_171 {m : Nat} {rf : Nat → Option Nat} (x1 : Int32) (x2 : Int32) (x3 : Int32) (y0 : Int32) : Sm m rf (X12_copy_171  m x1 x2 x3 y0) (N12_copy_171  x1 x2 x3 y0) := by
  unfold X12_copy_171 N12_copy_171
  refine sm_pI (k := 4) (by decide) rfl ?_
  refine sm_ite ?_ ?_
  · exact t_X12_copy_190  LFU x1 x2 (0 : Int32) (0 : Int32)
  · refine sm_wc (t_X12_no (4 : Int32)) fun v1 => ?_
    exact sm_ret
theorem t_X12_copy_147 {m : Nat} {rf : Nat → Option Nat} (x1 : Int32) (x2 : Int32) (x3 : Int32) : Sm m rf (X12_copy_147  m x1 x2 x3) (N12_copy_147  x1 x2 x3) := by
  unfold X12_copy_147 N12_copy_147
  refine sm_wc (t_X12_ends ) fun v1 => ?_
  refine sm_ite ?_ ?_
  · refine sm_wc (t_X12_no (2 : Int32)) fun v2 => ?_
    exact sm_ret
  · refine sm_ite ?_ ?_
    · exact t_X12_copy_171  x1 x2 x3 (0 : Int32)
    · exact t_X12_copy_171  x1 x2 x3 (7 : Int32)
theorem t_X12_copy_129 {m : Nat} {rf : Nat → Option Nat} {k27 : Int32 → Int32 → Int32 → NM Int32} (K27 : Nat → Int32 → Int32 → Int32 → MM Int32) (hk27 : ∀ (x1 : Int32) (x2 : Int32) (x3 : Int32), Sm m rf (K27 m x1 x2 x3) (k27 x1 x2 x3)) (x1 : Int32) (x2 : Int32) (y0 : Int32) : Sm m rf (X12_copy_129 K27 m x1 x2 y0) (N12_copy_129 k27 x1 x2 y0) := by
  unfold X12_copy_129 N12_copy_129
  refine sm_gI (k := 23) (by decide) rfl fun v1 => ?_
  refine sm_ite ?_ ?_
  · exact t_X12_copy_147  x1 (x2 + (1 : Int32)) y0
  · refine sm_gI (k := 21) (by decide) rfl fun v2 => ?_
    refine sm_ite ?_ ?_
    · exact t_X12_copy_147  x1 (x2 + (1 : Int32)) y0
    · exact hk27 x1 (x2 + (1 : Int32)) y0
theorem t_X12_copy_124 {m : Nat} {rf : Nat → Option Nat} {k27 : Int32 → Int32 → Int32 → NM Int32} (K27 : Nat → Int32 → Int32 → Int32 → MM Int32) (hk27 : ∀ (x1 : Int32) (x2 : Int32) (x3 : Int32), Sm m rf (K27 m x1 x2 x3) (k27 x1 x2 x3)) (x1 : Int32) (x2 : Int32) : Sm m rf (X12_copy_124 K27 m x1 x2) (N12_copy_124 k27 x1 x2) := by
  unfold X12_copy_124 N12_copy_124
  exact t_X12_copy_129 _ hk27 x1 x2 (1 : Int32)
theorem t_X12_copy_128 {m : Nat} {rf : Nat → Option Nat} {k27 : Int32 → Int32 → Int32 → NM Int32} (K27 : Nat → Int32 → Int32 → Int32 → MM Int32) (hk27 : ∀ (x1 : Int32) (x2 : Int32) (x3 : Int32), Sm m rf (K27 m x1 x2 x3) (k27 x1 x2 x3)) (x1 : Int32) (x2 : Int32) : Sm m rf (X12_copy_128 K27 m x1 x2) (N12_copy_128 k27 x1 x2) := by
  unfold X12_copy_128 N12_copy_128
  exact t_X12_copy_129 _ hk27 x1 x2 (0 : Int32)
theorem t_X12_copy_82 {m : Nat} {rf : Nat → Option Nat} {k27 : Int32 → Int32 → Int32 → NM Int32} (K27 : Nat → Int32 → Int32 → Int32 → MM Int32) (hk27 : ∀ (x1 : Int32) (x2 : Int32) (x3 : Int32), Sm m rf (K27 m x1 x2 x3) (k27 x1 x2 x3)) (x1 : Int32) (x2 : Int32) (x3 : Int32) (x4 : Int32) : Sm m rf (X12_copy_82 K27 m x1 x2 x3 x4) (N12_copy_82 k27 x1 x2 x3 x4) := by
  unfold X12_copy_82 N12_copy_82
  refine sm_ite ?_ ?_
  · refine sm_gR (k := 45) (by decide) rfl ?_
    refine sm_aI fun v1 => ?_
    refine sm_ite ?_ ?_
    · exact t_X12_copy_124 _ hk27 x1 x2
    · refine sm_gR (k := 46) (by decide) rfl ?_
      refine sm_aI fun v2 => ?_
      refine sm_ite ?_ ?_
      · exact t_X12_copy_124 _ hk27 x1 x2
      · refine sm_ite ?_ ?_
        · exact t_X12_copy_128 _ hk27 x1 x2
        · refine sm_gR (k := 46) (by decide) rfl ?_
          refine sm_aI fun v3 => ?_
          refine sm_gR (k := 45) (by decide) rfl ?_
          refine sm_aI fun v4 => ?_
          refine sm_ite ?_ ?_
          · exact t_X12_copy_128 _ hk27 x1 x2
          · exact t_X12_copy_124 _ hk27 x1 x2
  · exact t_X12_copy_124 _ hk27 x1 x2
theorem t_X12_copy_27_st {m : Nat} {rf : Nat → Option Nat} {k27 : Int32 → Int32 → Int32 → NM Int32} (K27 : Nat → Int32 → Int32 → Int32 → MM Int32) (hk27 : ∀ (x1 : Int32) (x2 : Int32) (x3 : Int32), Sm m rf (K27 m x1 x2 x3) (k27 x1 x2 x3)) (x1 : Int32) (x2 : Int32) (x3 : Int32) : Sm m rf (X12_copy_27_st  K27 m x1 x2 x3) (N12_copy_27_st  k27 x1 x2 x3) := by
  unfold X12_copy_27_st N12_copy_27_st
  refine sm_wc (t_X12_readName ) fun _ => ?_
  refine sm_gR (k := 45) (by decide) rfl ?_
  refine sm_wc (t_X12_named x1) fun v1 => ?_
  refine sm_sI ?_
  refine sm_gR (k := 46) (by decide) rfl ?_
  refine sm_gR (k := 45) (by decide) rfl ?_
  refine sm_aI fun v2 => ?_
  refine sm_sI ?_
  refine sm_wc (t_X12_goes (45 : Int32)) fun v3 => ?_
  refine sm_ite ?_ ?_
  · exact t_X12_copy_82 _ hk27 x1 x2 x3 v3
  · refine sm_wc (t_X12_readName ) fun _ => ?_
    refine sm_gR (k := 46) (by decide) rfl ?_
    refine sm_wc (t_X12_named x1) fun v4 => ?_
    refine sm_sI ?_
    exact t_X12_copy_82 _ hk27 x1 x2 x3 v3
theorem t_X12_copy_27 {m : Nat} {rf : Nat → Option Nat} : ∀ (n : Nat) (x1 : Int32) (x2 : Int32) (x3 : Int32), Sm m rf (X12_copy_27  n m x1 x2 x3) (N12_copy_27  n x1 x2 x3) := by
  intro n
  induction n with
  | zero => intro x1 x2 x3; exact sm_mf
  | succ n ih => intro x1 x2 x3; exact t_X12_copy_27_st  _ ih x1 x2 x3
theorem t_X12_copy {m : Nat} {rf : Nat → Option Nat} (a1 : Int32) : Sm m rf (X12_copy m a1) (N12_copy a1) := by
  unfold X12_copy N12_copy
  refine sm_wc (t_X12_isBook a1) fun v1 => ?_
  refine sm_ite ?_ ?_
  · refine sm_pI (k := 1) (by decide) rfl ?_
    refine sm_wc (t_X12_no (1 : Int32)) fun v2 => ?_
    exact sm_ret
  · refine sm_wc (t_X12_begins ) fun _ => ?_
    exact t_X12_copy_27  LFU a1 (0 : Int32) (0 : Int32)
def N12_find (a1 : Int32) : NM Int32 :=
  nb (N12_isBook a1) fun v1 =>
  if v1 = 0 then (nb (npI 1 (0 : Int32)) fun _ =>
  nb (N12_no (1 : Int32)) fun v2 =>
  nr v2) else (nb (N12_begins ) fun _ =>
  nb (N12_readName ) fun _ =>
  nb (N12_ends ) fun v3 =>
  if v3 = 0 then (nb (N12_no (2 : Int32)) fun v4 =>
  nr v4) else (nb (N12_named a1) fun v5 =>
  nb (N12_fine v5) fun v6 =>
  nr v6))
theorem t_X12_find {m : Nat} {rf : Nat → Option Nat} (a1 : Int32) : Sm m rf (X12_find m a1) (N12_find a1) := by
  unfold X12_find N12_find
  refine sm_wc (t_X12_isBook a1) fun v1 => ?_
  refine sm_ite ?_ ?_
  · refine sm_pI (k := 1) (by decide) rfl ?_
    refine sm_wc (t_X12_no (1 : Int32)) fun v2 => ?_
    exact sm_ret
  · refine sm_wc (t_X12_begins ) fun _ => ?_
    refine sm_wc (t_X12_readName ) fun _ => ?_
    refine sm_wc (t_X12_ends ) fun v3 => ?_
    refine sm_ite ?_ ?_
    · refine sm_wc (t_X12_no (2 : Int32)) fun v4 => ?_
      exact sm_ret
    · refine sm_wc (t_X12_named a1) fun v5 => ?_
      refine sm_wc (t_X12_fine v5) fun v6 => ?_
      exact sm_ret
def N12_place  : NM Int32 :=
  nb (ngI 3) fun v1 =>
  nr v1
theorem t_X12_place {m : Nat} {rf : Nat → Option Nat}  : Sm m rf (X12_place m) (N12_place ) := by
  unfold X12_place N12_place
  refine sm_gI (k := 3) (by decide) rfl fun v1 => ?_
  exact sm_ret
def N12_fault  : NM Int32 :=
  nb (ngI 4) fun v1 =>
  nr v1
theorem t_X12_fault {m : Nat} {rf : Nat → Option Nat}  : Sm m rf (X12_fault m) (N12_fault ) := by
  unfold X12_fault N12_fault
  refine sm_gI (k := 4) (by decide) rfl fun v1 => ?_
  exact sm_ret
def N12_count (a1 : Int32) : NM Int32 :=
  if a1 = 0 then (nb (ngI 5) fun v1 =>
  nb (N12_fine v1) fun v2 =>
  nr v2) else (if a1 = (1 : Int32) then (nb (ngI 15) fun v3 =>
  nb (N12_fine v3) fun v4 =>
  nr v4) else (if a1 = (2 : Int32) then (nb (ngI 1) fun v5 =>
  nb (N12_fine v5) fun v6 =>
  nr v6) else (nb (N12_no (3 : Int32)) fun v7 =>
  nr v7)))
theorem t_X12_count {m : Nat} {rf : Nat → Option Nat} (a1 : Int32) : Sm m rf (X12_count m a1) (N12_count a1) := by
  unfold X12_count N12_count
  refine sm_ite ?_ ?_
  · refine sm_gI (k := 5) (by decide) rfl fun v1 => ?_
    refine sm_wc (t_X12_fine v1) fun v2 => ?_
    exact sm_ret
  · refine sm_ite ?_ ?_
    · refine sm_gI (k := 15) (by decide) rfl fun v3 => ?_
      refine sm_wc (t_X12_fine v3) fun v4 => ?_
      exact sm_ret
    · refine sm_ite ?_ ?_
      · refine sm_gI (k := 1) (by decide) rfl fun v5 => ?_
        refine sm_wc (t_X12_fine v5) fun v6 => ?_
        exact sm_ret
      · refine sm_wc (t_X12_no (3 : Int32)) fun v7 => ?_
        exact sm_ret
def N12_gatherings (a1 : Int32) : NM Int32 :=
  nb (N12_isBook a1) fun v1 =>
  if v1 = 0 then (nb (N12_no (1 : Int32)) fun v2 =>
  nr v2) else (nb (naI 6 a1) fun v3 =>
  nb (N12_fine v3) fun v4 =>
  nr v4)
theorem t_X12_gatherings {m : Nat} {rf : Nat → Option Nat} (a1 : Int32) : Sm m rf (X12_gatherings m a1) (N12_gatherings a1) := by
  unfold X12_gatherings N12_gatherings
  refine sm_wc (t_X12_isBook a1) fun v1 => ?_
  refine sm_ite ?_ ?_
  · refine sm_wc (t_X12_no (1 : Int32)) fun v2 => ?_
    exact sm_ret
  · refine sm_gR (k := 6) (by decide) rfl ?_
    refine sm_aI fun v3 => ?_
    refine sm_wc (t_X12_fine v3) fun v4 => ?_
    exact sm_ret
def N12_gathering_24   : NM Int32 :=
  nb (N12_no (1 : Int32)) fun v1 =>
  nr v1
def N12_gathering_134 (k99 : Int32 → Int32 → Int32 → Int32 → NM Int32) (x1 : Int32) (x2 : Int32) (x5 : Int32) (y0 : Int32) (y1 : Int32) : NM Int32 :=
  (k99 x1 x2 (y1 + y0) (x5 + (1 : Int32)))
def N12_gathering_143  (x4 : Int32) : NM Int32 :=
  nb (N12_fine x4) fun v1 =>
  nr v1
def N12_gathering_99_st  (k99 : Int32 → Int32 → Int32 → Int32 → NM Int32) (x1 : Int32) (x2 : Int32) (x4 : Int32) (x5 : Int32) : NM Int32 :=
  nb (naI 11 x1) fun v1 =>
  if v1 ≤ x5 then ((N12_gathering_143  x4)) else (nb (naI 12 ((x1 * (400 : Int32)) + x5)) fun v2 =>
  if v2 = x2 then ((N12_gathering_134 k99 x1 x2 x5 (1 : Int32) x4)) else ((N12_gathering_134 k99 x1 x2 x5 (0 : Int32) x4)))
def N12_gathering_99  : Nat → Int32 → Int32 → Int32 → Int32 → NM Int32
  | 0 => fun _ _ _ _ => nf
  | n + 1 => fun x1 x2 x4 x5 => N12_gathering_99_st  (N12_gathering_99  n) x1 x2 x4 x5
def N12_gathering_192 (k153 : Int32 → Int32 → Int32 → Int32 → NM Int32) (x1 : Int32) (x2 : Int32) (x5 : Int32) (y0 : Int32) (y1 : Int32) : NM Int32 :=
  (k153 x1 x2 (y1 + y0) (x5 + (1 : Int32)))
def N12_gathering_201  (x4 : Int32) : NM Int32 :=
  nb (N12_fine x4) fun v1 =>
  nr v1
def N12_gathering_153_st  (k153 : Int32 → Int32 → Int32 → Int32 → NM Int32) (x1 : Int32) (x2 : Int32) (x4 : Int32) (x5 : Int32) : NM Int32 :=
  nb (naI 8 ((x1 * (71 : Int32)) + x2)) fun v1 =>
  if v1 < x5 then ((N12_gathering_201  x4)) else (nb (N12_spot x1 x2 x5) fun v2 =>
  nb (naI 9 v2) fun v3 =>
  if v3 = (1 : Int32) then ((N12_gathering_192 k153 x1 x2 x5 (1 : Int32) x4)) else ((N12_gathering_192 k153 x1 x2 x5 (0 : Int32) x4)))
def N12_gathering_153  : Nat → Int32 → Int32 → Int32 → Int32 → NM Int32
  | 0 => fun _ _ _ _ => nf
  | n + 1 => fun x1 x2 x4 x5 => N12_gathering_153_st  (N12_gathering_153  n) x1 x2 x4 x5
def N12_gathering (a1 : Int32) (a2 : Int32) (a3 : Int32) : NM Int32 :=
  nb (N12_isBook a1) fun v1 =>
  if v1 = 0 then ((N12_gathering_24  )) else (nb (naI 6 a1) fun v2 =>
  nb (N12_isIn a2 (0 : Int32) (v2 - (1 : Int32))) fun v3 =>
  if v3 = 0 then ((N12_gathering_24  )) else (if a3 = (0 : Int32) then (nb (naI 7 ((a1 * (71 : Int32)) + a2)) fun v4 =>
  nb (N12_fine v4) fun v5 =>
  nr v5) else (if a3 = (1 : Int32) then (nb (naI 8 ((a1 * (71 : Int32)) + a2)) fun v6 =>
  nb (N12_fine v6) fun v7 =>
  nr v7) else (if a3 = (2 : Int32) then ((N12_gathering_99  LFU a1 a2 (0 : Int32) (0 : Int32))) else (if a3 = (3 : Int32) then ((N12_gathering_153  LFU a1 a2 (0 : Int32) (1 : Int32))) else (nb (N12_no (3 : Int32)) fun v8 =>
  nr v8))))))
theorem t_X12_gathering_24 {m : Nat} {rf : Nat → Option Nat}  : Sm m rf (X12_gathering_24  m) (N12_gathering_24  ) := by
  unfold X12_gathering_24 N12_gathering_24
  refine sm_wc (t_X12_no (1 : Int32)) fun v1 => ?_
  exact sm_ret
theorem t_X12_gathering_134 {m : Nat} {rf : Nat → Option Nat} {k99 : Int32 → Int32 → Int32 → Int32 → NM Int32} (K99 : Nat → Int32 → Int32 → Int32 → Int32 → MM Int32) (hk99 : ∀ (x1 : Int32) (x2 : Int32) (x4 : Int32) (x5 : Int32), Sm m rf (K99 m x1 x2 x4 x5) (k99 x1 x2 x4 x5)) (x1 : Int32) (x2 : Int32) (x5 : Int32) (y0 : Int32) (y1 : Int32) : Sm m rf (X12_gathering_134 K99 m x1 x2 x5 y0 y1) (N12_gathering_134 k99 x1 x2 x5 y0 y1) := by
  unfold X12_gathering_134 N12_gathering_134
  exact hk99 x1 x2 (y1 + y0) (x5 + (1 : Int32))
theorem t_X12_gathering_143 {m : Nat} {rf : Nat → Option Nat} (x4 : Int32) : Sm m rf (X12_gathering_143  m x4) (N12_gathering_143  x4) := by
  unfold X12_gathering_143 N12_gathering_143
  refine sm_wc (t_X12_fine x4) fun v1 => ?_
  exact sm_ret
theorem t_X12_gathering_99_st {m : Nat} {rf : Nat → Option Nat} {k99 : Int32 → Int32 → Int32 → Int32 → NM Int32} (K99 : Nat → Int32 → Int32 → Int32 → Int32 → MM Int32) (hk99 : ∀ (x1 : Int32) (x2 : Int32) (x4 : Int32) (x5 : Int32), Sm m rf (K99 m x1 x2 x4 x5) (k99 x1 x2 x4 x5)) (x1 : Int32) (x2 : Int32) (x4 : Int32) (x5 : Int32) : Sm m rf (X12_gathering_99_st  K99 m x1 x2 x4 x5) (N12_gathering_99_st  k99 x1 x2 x4 x5) := by
  unfold X12_gathering_99_st N12_gathering_99_st
  refine sm_gR (k := 11) (by decide) rfl ?_
  refine sm_aI fun v1 => ?_
  refine sm_ite ?_ ?_
  · exact t_X12_gathering_143  x4
  · refine sm_gR (k := 12) (by decide) rfl ?_
    refine sm_aI fun v2 => ?_
    refine sm_ite ?_ ?_
    · exact t_X12_gathering_134 _ hk99 x1 x2 x5 (1 : Int32) x4
    · exact t_X12_gathering_134 _ hk99 x1 x2 x5 (0 : Int32) x4
theorem t_X12_gathering_99 {m : Nat} {rf : Nat → Option Nat} : ∀ (n : Nat) (x1 : Int32) (x2 : Int32) (x4 : Int32) (x5 : Int32), Sm m rf (X12_gathering_99  n m x1 x2 x4 x5) (N12_gathering_99  n x1 x2 x4 x5) := by
  intro n
  induction n with
  | zero => intro x1 x2 x4 x5; exact sm_mf
  | succ n ih => intro x1 x2 x4 x5; exact t_X12_gathering_99_st  _ ih x1 x2 x4 x5
theorem t_X12_gathering_192 {m : Nat} {rf : Nat → Option Nat} {k153 : Int32 → Int32 → Int32 → Int32 → NM Int32} (K153 : Nat → Int32 → Int32 → Int32 → Int32 → MM Int32) (hk153 : ∀ (x1 : Int32) (x2 : Int32) (x4 : Int32) (x5 : Int32), Sm m rf (K153 m x1 x2 x4 x5) (k153 x1 x2 x4 x5)) (x1 : Int32) (x2 : Int32) (x5 : Int32) (y0 : Int32) (y1 : Int32) : Sm m rf (X12_gathering_192 K153 m x1 x2 x5 y0 y1) (N12_gathering_192 k153 x1 x2 x5 y0 y1) := by
  unfold X12_gathering_192 N12_gathering_192
  exact hk153 x1 x2 (y1 + y0) (x5 + (1 : Int32))
theorem t_X12_gathering_201 {m : Nat} {rf : Nat → Option Nat} (x4 : Int32) : Sm m rf (X12_gathering_201  m x4) (N12_gathering_201  x4) := by
  unfold X12_gathering_201 N12_gathering_201
  refine sm_wc (t_X12_fine x4) fun v1 => ?_
  exact sm_ret
theorem t_X12_gathering_153_st {m : Nat} {rf : Nat → Option Nat} {k153 : Int32 → Int32 → Int32 → Int32 → NM Int32} (K153 : Nat → Int32 → Int32 → Int32 → Int32 → MM Int32) (hk153 : ∀ (x1 : Int32) (x2 : Int32) (x4 : Int32) (x5 : Int32), Sm m rf (K153 m x1 x2 x4 x5) (k153 x1 x2 x4 x5)) (x1 : Int32) (x2 : Int32) (x4 : Int32) (x5 : Int32) : Sm m rf (X12_gathering_153_st  K153 m x1 x2 x4 x5) (N12_gathering_153_st  k153 x1 x2 x4 x5) := by
  unfold X12_gathering_153_st N12_gathering_153_st
  refine sm_gR (k := 8) (by decide) rfl ?_
  refine sm_aI fun v1 => ?_
  refine sm_ite ?_ ?_
  · exact t_X12_gathering_201  x4
  · refine sm_gR (k := 9) (by decide) rfl ?_
    refine sm_cal (t_X12_spot x1 x2 x5) fun v2 => ?_
    refine sm_aI fun v3 => ?_
    refine sm_ite ?_ ?_
    · exact t_X12_gathering_192 _ hk153 x1 x2 x5 (1 : Int32) x4
    · exact t_X12_gathering_192 _ hk153 x1 x2 x5 (0 : Int32) x4
theorem t_X12_gathering_153 {m : Nat} {rf : Nat → Option Nat} : ∀ (n : Nat) (x1 : Int32) (x2 : Int32) (x4 : Int32) (x5 : Int32), Sm m rf (X12_gathering_153  n m x1 x2 x4 x5) (N12_gathering_153  n x1 x2 x4 x5) := by
  intro n
  induction n with
  | zero => intro x1 x2 x4 x5; exact sm_mf
  | succ n ih => intro x1 x2 x4 x5; exact t_X12_gathering_153_st  _ ih x1 x2 x4 x5
theorem t_X12_gathering {m : Nat} {rf : Nat → Option Nat} (a1 : Int32) (a2 : Int32) (a3 : Int32) : Sm m rf (X12_gathering m a1 a2 a3) (N12_gathering a1 a2 a3) := by
  unfold X12_gathering N12_gathering
  refine sm_wc (t_X12_isBook a1) fun v1 => ?_
  refine sm_ite ?_ ?_
  · exact t_X12_gathering_24  
  · refine sm_gR (k := 6) (by decide) rfl ?_
    refine sm_aI fun v2 => ?_
    refine sm_cal (t_X12_isIn a2 (0 : Int32) (v2 - (1 : Int32))) fun v3 => ?_
    refine sm_ite ?_ ?_
    · exact t_X12_gathering_24  
    · refine sm_ite ?_ ?_
      · refine sm_gR (k := 7) (by decide) rfl ?_
        refine sm_aI fun v4 => ?_
        refine sm_wc (t_X12_fine v4) fun v5 => ?_
        exact sm_ret
      refine sm_ite ?_ ?_
      · refine sm_gR (k := 8) (by decide) rfl ?_
        refine sm_aI fun v6 => ?_
        refine sm_wc (t_X12_fine v6) fun v7 => ?_
        exact sm_ret
      refine sm_ite ?_ ?_
      · exact t_X12_gathering_99  LFU a1 a2 (0 : Int32) (0 : Int32)
      refine sm_ite ?_ ?_
      · exact t_X12_gathering_153  LFU a1 a2 (0 : Int32) (1 : Int32)
      refine sm_wc (t_X12_no (3 : Int32)) fun v8 => ?_
      exact sm_ret
def N12_leaves (a1 : Int32) : NM Int32 :=
  nb (N12_isBook a1) fun v1 =>
  if v1 = 0 then (nb (N12_no (1 : Int32)) fun v2 =>
  nr v2) else (nb (naI 11 a1) fun v3 =>
  nb (N12_fine v3) fun v4 =>
  nr v4)
theorem t_X12_leaves {m : Nat} {rf : Nat → Option Nat} (a1 : Int32) : Sm m rf (X12_leaves m a1) (N12_leaves a1) := by
  unfold X12_leaves N12_leaves
  refine sm_wc (t_X12_isBook a1) fun v1 => ?_
  refine sm_ite ?_ ?_
  · refine sm_wc (t_X12_no (1 : Int32)) fun v2 => ?_
    exact sm_ret
  · refine sm_gR (k := 11) (by decide) rfl ?_
    refine sm_aI fun v3 => ?_
    refine sm_wc (t_X12_fine v3) fun v4 => ?_
    exact sm_ret
def N12_isLeaf (a1 : Int32) (a2 : Int32) : NM Int32 :=
  nb (N12_isBook a1) fun v1 =>
  if v1 = 0 then (nr (0 : Int32)) else (nb (naI 11 a1) fun v2 =>
  nb (N12_isIn a2 (0 : Int32) (v2 - (1 : Int32))) fun v3 =>
  if v3 = 0 then (nr (0 : Int32)) else (nr (1 : Int32)))
theorem t_X12_isLeaf {m : Nat} {rf : Nat → Option Nat} (a1 : Int32) (a2 : Int32) : Sm m rf (X12_isLeaf m a1 a2) (N12_isLeaf a1 a2) := by
  unfold X12_isLeaf N12_isLeaf
  refine sm_wc (t_X12_isBook a1) fun v1 => ?_
  refine sm_ite ?_ ?_
  · exact sm_ret
  · refine sm_gR (k := 11) (by decide) rfl ?_
    refine sm_aI fun v2 => ?_
    refine sm_cal (t_X12_isIn a2 (0 : Int32) (v2 - (1 : Int32))) fun v3 => ?_
    refine sm_ite ?_ ?_
    · exact sm_ret
    · exact sm_ret
def N12_leaf_113  (y0 : Int32) : NM Int32 :=
  nb (N12_fine y0) fun v1 =>
  nr v1
def N12_leaf (a1 : Int32) (a2 : Int32) (a3 : Int32) : NM Int32 :=
  nb (N12_isLeaf a1 a2) fun v1 =>
  if v1 = 0 then (nb (N12_no (1 : Int32)) fun v2 =>
  nr v2) else (if a3 = (0 : Int32) then (nb (naI 12 ((a1 * (400 : Int32)) + a2)) fun v3 =>
  nb (N12_fine v3) fun v4 =>
  nr v4) else (if a3 = (1 : Int32) then (nb (naI 13 ((a1 * (400 : Int32)) + a2)) fun v5 =>
  nb (N12_fine v5) fun v6 =>
  nr v6) else (if a3 = (2 : Int32) then (nb (naI 14 ((a1 * (400 : Int32)) + a2)) fun v7 =>
  if v7 ≤ 0 then (nb (N12_isPlain a1 a2) fun v8 =>
  if v8 = 0 then ((N12_leaf_113  (1 : Int32))) else ((N12_leaf_113  (0 : Int32)))) else ((N12_leaf_113  (2 : Int32)))) else (if a3 = (3 : Int32) then (nb (naI 14 ((a1 * (400 : Int32)) + a2)) fun v9 =>
  nb (N12_fine v9) fun v10 =>
  nr v10) else (if a3 = (4 : Int32) then (nb (N12_conjugate a1 a2) fun v11 =>
  nb (N12_fine v11) fun v12 =>
  nr v12) else (nb (N12_no (3 : Int32)) fun v13 =>
  nr v13))))))
theorem t_X12_leaf_113 {m : Nat} {rf : Nat → Option Nat} (y0 : Int32) : Sm m rf (X12_leaf_113  m y0) (N12_leaf_113  y0) := by
  unfold X12_leaf_113 N12_leaf_113
  refine sm_wc (t_X12_fine y0) fun v1 => ?_
  exact sm_ret
theorem t_X12_leaf {m : Nat} {rf : Nat → Option Nat} (a1 : Int32) (a2 : Int32) (a3 : Int32) : Sm m rf (X12_leaf m a1 a2 a3) (N12_leaf a1 a2 a3) := by
  unfold X12_leaf N12_leaf
  refine sm_wc (t_X12_isLeaf a1 a2) fun v1 => ?_
  refine sm_ite ?_ ?_
  · refine sm_wc (t_X12_no (1 : Int32)) fun v2 => ?_
    exact sm_ret
  · refine sm_ite ?_ ?_
    · refine sm_gR (k := 12) (by decide) rfl ?_
      refine sm_aI fun v3 => ?_
      refine sm_wc (t_X12_fine v3) fun v4 => ?_
      exact sm_ret
    refine sm_ite ?_ ?_
    · refine sm_gR (k := 13) (by decide) rfl ?_
      refine sm_aI fun v5 => ?_
      refine sm_wc (t_X12_fine v5) fun v6 => ?_
      exact sm_ret
    refine sm_ite ?_ ?_
    · refine sm_gR (k := 14) (by decide) rfl ?_
      refine sm_aI fun v7 => ?_
      refine sm_ite ?_ ?_
      · refine sm_wc (t_X12_isPlain a1 a2) fun v8 => ?_
        refine sm_ite ?_ ?_
        · exact t_X12_leaf_113  (1 : Int32)
        · exact t_X12_leaf_113  (0 : Int32)
      · exact t_X12_leaf_113  (2 : Int32)
    refine sm_ite ?_ ?_
    · refine sm_gR (k := 14) (by decide) rfl ?_
      refine sm_aI fun v9 => ?_
      refine sm_wc (t_X12_fine v9) fun v10 => ?_
      exact sm_ret
    refine sm_ite ?_ ?_
    · refine sm_wc (t_X12_conjugate a1 a2) fun v11 => ?_
      refine sm_wc (t_X12_fine v11) fun v12 => ?_
      exact sm_ret
    refine sm_wc (t_X12_no (3 : Int32)) fun v13 => ?_
    exact sm_ret
def N12_letter (a1 : Int32) (a2 : Int32) : NM Int32 :=
  nb (N12_isBook a1) fun v1 =>
  if v1 = 0 then (nb (N12_no (1 : Int32)) fun v2 =>
  nr v2) else (nb (N12_writeBook a1) fun _ =>
  nb (N12_tell a2) fun v3 =>
  nr v3)
theorem t_X12_letter {m : Nat} {rf : Nat → Option Nat} (a1 : Int32) (a2 : Int32) : Sm m rf (X12_letter m a1 a2) (N12_letter a1 a2) := by
  unfold X12_letter N12_letter
  refine sm_wc (t_X12_isBook a1) fun v1 => ?_
  refine sm_ite ?_ ?_
  · refine sm_wc (t_X12_no (1 : Int32)) fun v2 => ?_
    exact sm_ret
  · refine sm_wc (t_X12_writeBook a1) fun _ => ?_
    refine sm_wc (t_X12_tell a2) fun v3 => ?_
    exact sm_ret
def N12_name (a1 : Int32) (a2 : Int32) (a3 : Int32) : NM Int32 :=
  nb (N12_isLeaf a1 a2) fun v1 =>
  if v1 = 0 then (nb (N12_no (1 : Int32)) fun v2 =>
  nr v2) else (nb (npI 37 (0 : Int32)) fun _ =>
  nb (N12_writeName a1 a2) fun _ =>
  nb (N12_tell a3) fun v3 =>
  nr v3)
theorem t_X12_name {m : Nat} {rf : Nat → Option Nat} (a1 : Int32) (a2 : Int32) (a3 : Int32) : Sm m rf (X12_name m a1 a2 a3) (N12_name a1 a2 a3) := by
  unfold X12_name N12_name
  refine sm_wc (t_X12_isLeaf a1 a2) fun v1 => ?_
  refine sm_ite ?_ ?_
  · refine sm_wc (t_X12_no (1 : Int32)) fun v2 => ?_
    exact sm_ret
  · refine sm_pI (k := 37) (by decide) rfl ?_
    refine sm_wc (t_X12_writeName a1 a2) fun _ => ?_
    refine sm_wc (t_X12_tell a3) fun v3 => ?_
    exact sm_ret
def N12_same_16   : NM Int32 :=
  nb (N12_no (1 : Int32)) fun v1 =>
  nr v1
def N12_same_117 (k84 : Int32 → Int32 → Int32 → NM Int32) (x3 : Int32) (x5 : Int32) (y0 : Int32) : NM Int32 :=
  (k84 x3 y0 (x5 + (1 : Int32)))
def N12_same_136  (y0 : Int32) : NM Int32 :=
  nb (N12_fine y0) fun v1 =>
  nr v1
def N12_same_125  (x4 : Int32) : NM Int32 :=
  if x4 = 0 then ((N12_same_136  (0 : Int32))) else ((N12_same_136  (1 : Int32)))
def N12_same_84_st  (k84 : Int32 → Int32 → Int32 → NM Int32) (x3 : Int32) (x4 : Int32) (x5 : Int32) : NM Int32 :=
  if x3 ≤ x5 then ((N12_same_125  x4)) else (if x4 = 0 then ((N12_same_125  x4)) else (nb (naI 38 x5) fun v1 =>
  nb (naI 36 x5) fun v2 =>
  if v1 = v2 then ((N12_same_117 k84 x3 x5 (1 : Int32))) else ((N12_same_117 k84 x3 x5 (0 : Int32)))))
def N12_same_84  : Nat → Int32 → Int32 → Int32 → NM Int32
  | 0 => fun _ _ _ => nf
  | n + 1 => fun x3 x4 x5 => N12_same_84_st  (N12_same_84  n) x3 x4 x5
def N12_same_79  (x3 : Int32) (y0 : Int32) : NM Int32 :=
  (N12_same_84  LFU x3 y0 (0 : Int32))
def N12_same_61  (x2 : Int32) (x3 : Int32) : NM Int32 :=
  nb (N12_writeBook x2) fun _ =>
  nb (ngI 37) fun v1 =>
  if v1 = x3 then ((N12_same_79  x3 (1 : Int32))) else ((N12_same_79  x3 (0 : Int32)))
def N12_same_35_st  (k35 : Int32 → Int32 → Int32 → NM Int32) (x2 : Int32) (x3 : Int32) (x4 : Int32) : NM Int32 :=
  if x3 ≤ x4 then ((N12_same_61  x2 x3)) else (nb (naI 36 x4) fun v1 =>
  nb (nsI 38 x4 v1) fun _ =>
  (k35 x2 x3 (x4 + (1 : Int32))))
def N12_same_35  : Nat → Int32 → Int32 → Int32 → NM Int32
  | 0 => fun _ _ _ => nf
  | n + 1 => fun x2 x3 x4 => N12_same_35_st  (N12_same_35  n) x2 x3 x4
def N12_same (a1 : Int32) (a2 : Int32) : NM Int32 :=
  nb (N12_isBook a1) fun v1 =>
  if v1 = 0 then ((N12_same_16  )) else (nb (N12_isBook a2) fun v2 =>
  if v2 = 0 then ((N12_same_16  )) else (nb (N12_writeBook a1) fun _ =>
  nb (ngI 37) fun v3 =>
  (N12_same_35  LFU a2 v3 (0 : Int32))))
theorem t_X12_same_16 {m : Nat} {rf : Nat → Option Nat}  : Sm m rf (X12_same_16  m) (N12_same_16  ) := by
  unfold X12_same_16 N12_same_16
  refine sm_wc (t_X12_no (1 : Int32)) fun v1 => ?_
  exact sm_ret
theorem t_X12_same_117 {m : Nat} {rf : Nat → Option Nat} {k84 : Int32 → Int32 → Int32 → NM Int32} (K84 : Nat → Int32 → Int32 → Int32 → MM Int32) (hk84 : ∀ (x3 : Int32) (x4 : Int32) (x5 : Int32), Sm m rf (K84 m x3 x4 x5) (k84 x3 x4 x5)) (x3 : Int32) (x5 : Int32) (y0 : Int32) : Sm m rf (X12_same_117 K84 m x3 x5 y0) (N12_same_117 k84 x3 x5 y0) := by
  unfold X12_same_117 N12_same_117
  exact hk84 x3 y0 (x5 + (1 : Int32))
theorem t_X12_same_136 {m : Nat} {rf : Nat → Option Nat} (y0 : Int32) : Sm m rf (X12_same_136  m y0) (N12_same_136  y0) := by
  unfold X12_same_136 N12_same_136
  refine sm_wc (t_X12_fine y0) fun v1 => ?_
  exact sm_ret
theorem t_X12_same_125 {m : Nat} {rf : Nat → Option Nat} (x4 : Int32) : Sm m rf (X12_same_125  m x4) (N12_same_125  x4) := by
  unfold X12_same_125 N12_same_125
  refine sm_ite ?_ ?_
  · exact t_X12_same_136  (0 : Int32)
  · exact t_X12_same_136  (1 : Int32)
theorem t_X12_same_84_st {m : Nat} {rf : Nat → Option Nat} {k84 : Int32 → Int32 → Int32 → NM Int32} (K84 : Nat → Int32 → Int32 → Int32 → MM Int32) (hk84 : ∀ (x3 : Int32) (x4 : Int32) (x5 : Int32), Sm m rf (K84 m x3 x4 x5) (k84 x3 x4 x5)) (x3 : Int32) (x4 : Int32) (x5 : Int32) : Sm m rf (X12_same_84_st  K84 m x3 x4 x5) (N12_same_84_st  k84 x3 x4 x5) := by
  unfold X12_same_84_st N12_same_84_st
  refine sm_ite ?_ ?_
  · exact t_X12_same_125  x4
  · refine sm_ite ?_ ?_
    · exact t_X12_same_125  x4
    · refine sm_gR (k := 38) (by decide) rfl ?_
      refine sm_aI fun v1 => ?_
      refine sm_gR (k := 36) (by decide) rfl ?_
      refine sm_aI fun v2 => ?_
      refine sm_ite ?_ ?_
      · exact t_X12_same_117 _ hk84 x3 x5 (1 : Int32)
      · exact t_X12_same_117 _ hk84 x3 x5 (0 : Int32)
theorem t_X12_same_84 {m : Nat} {rf : Nat → Option Nat} : ∀ (n : Nat) (x3 : Int32) (x4 : Int32) (x5 : Int32), Sm m rf (X12_same_84  n m x3 x4 x5) (N12_same_84  n x3 x4 x5) := by
  intro n
  induction n with
  | zero => intro x3 x4 x5; exact sm_mf
  | succ n ih => intro x3 x4 x5; exact t_X12_same_84_st  _ ih x3 x4 x5
theorem t_X12_same_79 {m : Nat} {rf : Nat → Option Nat} (x3 : Int32) (y0 : Int32) : Sm m rf (X12_same_79  m x3 y0) (N12_same_79  x3 y0) := by
  unfold X12_same_79 N12_same_79
  exact t_X12_same_84  LFU x3 y0 (0 : Int32)
theorem t_X12_same_61 {m : Nat} {rf : Nat → Option Nat} (x2 : Int32) (x3 : Int32) : Sm m rf (X12_same_61  m x2 x3) (N12_same_61  x2 x3) := by
  unfold X12_same_61 N12_same_61
  refine sm_wc (t_X12_writeBook x2) fun _ => ?_
  refine sm_gI (k := 37) (by decide) rfl fun v1 => ?_
  refine sm_ite ?_ ?_
  · exact t_X12_same_79  x3 (1 : Int32)
  · exact t_X12_same_79  x3 (0 : Int32)
theorem t_X12_same_35_st {m : Nat} {rf : Nat → Option Nat} {k35 : Int32 → Int32 → Int32 → NM Int32} (K35 : Nat → Int32 → Int32 → Int32 → MM Int32) (hk35 : ∀ (x2 : Int32) (x3 : Int32) (x4 : Int32), Sm m rf (K35 m x2 x3 x4) (k35 x2 x3 x4)) (x2 : Int32) (x3 : Int32) (x4 : Int32) : Sm m rf (X12_same_35_st  K35 m x2 x3 x4) (N12_same_35_st  k35 x2 x3 x4) := by
  unfold X12_same_35_st N12_same_35_st
  refine sm_ite ?_ ?_
  · exact t_X12_same_61  x2 x3
  · refine sm_gR (k := 38) (by decide) rfl ?_
    refine sm_gR (k := 36) (by decide) rfl ?_
    refine sm_aI fun v1 => ?_
    refine sm_sI ?_
    exact hk35 x2 x3 (x4 + (1 : Int32))
theorem t_X12_same_35 {m : Nat} {rf : Nat → Option Nat} : ∀ (n : Nat) (x2 : Int32) (x3 : Int32) (x4 : Int32), Sm m rf (X12_same_35  n m x2 x3 x4) (N12_same_35  n x2 x3 x4) := by
  intro n
  induction n with
  | zero => intro x2 x3 x4; exact sm_mf
  | succ n ih => intro x2 x3 x4; exact t_X12_same_35_st  _ ih x2 x3 x4
theorem t_X12_same {m : Nat} {rf : Nat → Option Nat} (a1 : Int32) (a2 : Int32) : Sm m rf (X12_same m a1 a2) (N12_same a1 a2) := by
  unfold X12_same N12_same
  refine sm_wc (t_X12_isBook a1) fun v1 => ?_
  refine sm_ite ?_ ?_
  · exact t_X12_same_16  
  · refine sm_wc (t_X12_isBook a2) fun v2 => ?_
    refine sm_ite ?_ ?_
    · exact t_X12_same_16  
    · refine sm_wc (t_X12_writeBook a1) fun _ => ?_
      refine sm_gI (k := 37) (by decide) rfl fun v3 => ?_
      exact t_X12_same_35  LFU a2 v3 (0 : Int32)
def N12_sheets_68  (x3 : Int32) : NM Int32 :=
  nb (N12_fine x3) fun v1 =>
  nr v1
def N12_sheets_32_st  (k32 : Int32 → Int32 → Int32 → Int32 → NM Int32) (x1 : Int32) (x2 : Int32) (x3 : Int32) (x4 : Int32) : NM Int32 :=
  nb (naI 6 x1) fun v1 =>
  if v1 ≤ x4 then ((N12_sheets_68  x3)) else (nb (naI 8 ((x1 * (71 : Int32)) + x4)) fun v2 =>
  nb (N12_sheetsOf v2 x2) fun v3 =>
  (k32 x1 x2 (x3 + v3) (x4 + (1 : Int32))))
def N12_sheets_32  : Nat → Int32 → Int32 → Int32 → Int32 → NM Int32
  | 0 => fun _ _ _ _ => nf
  | n + 1 => fun x1 x2 x3 x4 => N12_sheets_32_st  (N12_sheets_32  n) x1 x2 x3 x4
def N12_sheets (a1 : Int32) (a2 : Int32) : NM Int32 :=
  nb (N12_isBook a1) fun v1 =>
  if v1 = 0 then (nb (N12_no (1 : Int32)) fun v2 =>
  nr v2) else (nb (N12_isFormat a2) fun v3 =>
  if v3 = 0 then (nb (N12_no (3 : Int32)) fun v4 =>
  nr v4) else ((N12_sheets_32  LFU a1 a2 (0 : Int32) (0 : Int32))))
theorem t_X12_sheets_68 {m : Nat} {rf : Nat → Option Nat} (x3 : Int32) : Sm m rf (X12_sheets_68  m x3) (N12_sheets_68  x3) := by
  unfold X12_sheets_68 N12_sheets_68
  refine sm_wc (t_X12_fine x3) fun v1 => ?_
  exact sm_ret
theorem t_X12_sheets_32_st {m : Nat} {rf : Nat → Option Nat} {k32 : Int32 → Int32 → Int32 → Int32 → NM Int32} (K32 : Nat → Int32 → Int32 → Int32 → Int32 → MM Int32) (hk32 : ∀ (x1 : Int32) (x2 : Int32) (x3 : Int32) (x4 : Int32), Sm m rf (K32 m x1 x2 x3 x4) (k32 x1 x2 x3 x4)) (x1 : Int32) (x2 : Int32) (x3 : Int32) (x4 : Int32) : Sm m rf (X12_sheets_32_st  K32 m x1 x2 x3 x4) (N12_sheets_32_st  k32 x1 x2 x3 x4) := by
  unfold X12_sheets_32_st N12_sheets_32_st
  refine sm_gR (k := 6) (by decide) rfl ?_
  refine sm_aI fun v1 => ?_
  refine sm_ite ?_ ?_
  · exact t_X12_sheets_68  x3
  · refine sm_gR (k := 8) (by decide) rfl ?_
    refine sm_aI fun v2 => ?_
    refine sm_cal (t_X12_sheetsOf v2 x2) fun v3 => ?_
    exact hk32 x1 x2 (x3 + v3) (x4 + (1 : Int32))
theorem t_X12_sheets_32 {m : Nat} {rf : Nat → Option Nat} : ∀ (n : Nat) (x1 : Int32) (x2 : Int32) (x3 : Int32) (x4 : Int32), Sm m rf (X12_sheets_32  n m x1 x2 x3 x4) (N12_sheets_32  n x1 x2 x3 x4) := by
  intro n
  induction n with
  | zero => intro x1 x2 x3 x4; exact sm_mf
  | succ n ih => intro x1 x2 x3 x4; exact t_X12_sheets_32_st  _ ih x1 x2 x3 x4
theorem t_X12_sheets {m : Nat} {rf : Nat → Option Nat} (a1 : Int32) (a2 : Int32) : Sm m rf (X12_sheets m a1 a2) (N12_sheets a1 a2) := by
  unfold X12_sheets N12_sheets
  refine sm_wc (t_X12_isBook a1) fun v1 => ?_
  refine sm_ite ?_ ?_
  · refine sm_wc (t_X12_no (1 : Int32)) fun v2 => ?_
    exact sm_ret
  · refine sm_cal (t_X12_isFormat a2) fun v3 => ?_
    refine sm_ite ?_ ?_
    · refine sm_wc (t_X12_no (3 : Int32)) fun v4 => ?_
      exact sm_ret
    · exact t_X12_sheets_32  LFU a1 a2 (0 : Int32) (0 : Int32)
def N12_sheet_32   : NM Int32 :=
  nb (N12_no (3 : Int32)) fun v1 =>
  nr v1
def N12_sheet_162  (x7 : Int32) : NM Int32 :=
  nb (N12_fine x7) fun v1 =>
  nr v1
def N12_sheet_123_st  (k123 : Int32 → Int32 → Int32 → Int32 → Int32 → NM Int32) (x1 : Int32) (x3 : Int32) (x5 : Int32) (x7 : Int32) (x8 : Int32) : NM Int32 :=
  nb (naI 12 x5) fun v1 =>
  if v1 ≤ x8 then ((N12_sheet_162  x7)) else (nb (naI 8 ((x1 * (71 : Int32)) + x8)) fun v2 =>
  nb (N12_sheetsOf v2 x3) fun v3 =>
  (k123 x1 x3 x5 (x7 + v3) (x8 + (1 : Int32))))
def N12_sheet_123  : Nat → Int32 → Int32 → Int32 → Int32 → Int32 → NM Int32
  | 0 => fun _ _ _ _ _ => nf
  | n + 1 => fun x1 x3 x5 x7 x8 => N12_sheet_123_st  (N12_sheet_123  n) x1 x3 x5 x7 x8
def N12_sheet (a1 : Int32) (a2 : Int32) (a3 : Int32) (a4 : Int32) : NM Int32 :=
  nb (N12_isLeaf a1 a2) fun v1 =>
  if v1 = 0 then (nb (N12_no (1 : Int32)) fun v2 =>
  nr v2) else (nb (N12_isFormat a3) fun v3 =>
  if v3 = 0 then ((N12_sheet_32  )) else (nb (N12_isIn a4 (0 : Int32) (1 : Int32)) fun v4 =>
  if v4 = 0 then ((N12_sheet_32  )) else (nb (N12_isPlain a1 a2) fun v5 =>
  if v5 = 0 then (nb (N12_fine (-1 : Int32)) fun v6 =>
  nr v6) else (nb (naI 12 ((a1 * (400 : Int32)) + a2)) fun v7 =>
  nb (naI 8 ((a1 * (71 : Int32)) + v7)) fun v8 =>
  if a4 = (1 : Int32) then (nb (naI 13 ((a1 * (400 : Int32)) + a2)) fun v9 =>
  nb (N12_numberOn v8 v9 a3) fun v10 =>
  nb (N12_fine v10) fun v11 =>
  nr v11) else (nb (naI 13 ((a1 * (400 : Int32)) + a2)) fun v12 =>
  nb (N12_sheetOf v8 v12 a3) fun v13 =>
  (N12_sheet_123  LFU a1 a3 ((a1 * (400 : Int32)) + a2) v13 (0 : Int32)))))))
theorem t_X12_sheet_32 {m : Nat} {rf : Nat → Option Nat}  : Sm m rf (X12_sheet_32  m) (N12_sheet_32  ) := by
  unfold X12_sheet_32 N12_sheet_32
  refine sm_wc (t_X12_no (3 : Int32)) fun v1 => ?_
  exact sm_ret
theorem t_X12_sheet_162 {m : Nat} {rf : Nat → Option Nat} (x7 : Int32) : Sm m rf (X12_sheet_162  m x7) (N12_sheet_162  x7) := by
  unfold X12_sheet_162 N12_sheet_162
  refine sm_wc (t_X12_fine x7) fun v1 => ?_
  exact sm_ret
theorem t_X12_sheet_123_st {m : Nat} {rf : Nat → Option Nat} {k123 : Int32 → Int32 → Int32 → Int32 → Int32 → NM Int32} (K123 : Nat → Int32 → Int32 → Int32 → Int32 → Int32 → MM Int32) (hk123 : ∀ (x1 : Int32) (x3 : Int32) (x5 : Int32) (x7 : Int32) (x8 : Int32), Sm m rf (K123 m x1 x3 x5 x7 x8) (k123 x1 x3 x5 x7 x8)) (x1 : Int32) (x3 : Int32) (x5 : Int32) (x7 : Int32) (x8 : Int32) : Sm m rf (X12_sheet_123_st  K123 m x1 x3 x5 x7 x8) (N12_sheet_123_st  k123 x1 x3 x5 x7 x8) := by
  unfold X12_sheet_123_st N12_sheet_123_st
  refine sm_gR (k := 12) (by decide) rfl ?_
  refine sm_aI fun v1 => ?_
  refine sm_ite ?_ ?_
  · exact t_X12_sheet_162  x7
  · refine sm_gR (k := 8) (by decide) rfl ?_
    refine sm_aI fun v2 => ?_
    refine sm_cal (t_X12_sheetsOf v2 x3) fun v3 => ?_
    exact hk123 x1 x3 x5 (x7 + v3) (x8 + (1 : Int32))
theorem t_X12_sheet_123 {m : Nat} {rf : Nat → Option Nat} : ∀ (n : Nat) (x1 : Int32) (x3 : Int32) (x5 : Int32) (x7 : Int32) (x8 : Int32), Sm m rf (X12_sheet_123  n m x1 x3 x5 x7 x8) (N12_sheet_123  n x1 x3 x5 x7 x8) := by
  intro n
  induction n with
  | zero => intro x1 x3 x5 x7 x8; exact sm_mf
  | succ n ih => intro x1 x3 x5 x7 x8; exact t_X12_sheet_123_st  _ ih x1 x3 x5 x7 x8
theorem t_X12_sheet {m : Nat} {rf : Nat → Option Nat} (a1 : Int32) (a2 : Int32) (a3 : Int32) (a4 : Int32) : Sm m rf (X12_sheet m a1 a2 a3 a4) (N12_sheet a1 a2 a3 a4) := by
  unfold X12_sheet N12_sheet
  refine sm_wc (t_X12_isLeaf a1 a2) fun v1 => ?_
  refine sm_ite ?_ ?_
  · refine sm_wc (t_X12_no (1 : Int32)) fun v2 => ?_
    exact sm_ret
  · refine sm_cal (t_X12_isFormat a3) fun v3 => ?_
    refine sm_ite ?_ ?_
    · exact t_X12_sheet_32  
    · refine sm_cal (t_X12_isIn a4 (0 : Int32) (1 : Int32)) fun v4 => ?_
      refine sm_ite ?_ ?_
      · exact t_X12_sheet_32  
      · refine sm_wc (t_X12_isPlain a1 a2) fun v5 => ?_
        refine sm_ite ?_ ?_
        · refine sm_wc (t_X12_fine (-1 : Int32)) fun v6 => ?_
          exact sm_ret
        · refine sm_gR (k := 8) (by decide) rfl ?_
          refine sm_gR (k := 12) (by decide) rfl ?_
          refine sm_aI fun v7 => ?_
          refine sm_aI fun v8 => ?_
          refine sm_ite ?_ ?_
          · refine sm_gR (k := 13) (by decide) rfl ?_
            refine sm_aI fun v9 => ?_
            refine sm_cal (t_X12_numberOn v8 v9 a3) fun v10 => ?_
            refine sm_wc (t_X12_fine v10) fun v11 => ?_
            exact sm_ret
          · refine sm_gR (k := 13) (by decide) rfl ?_
            refine sm_aI fun v12 => ?_
            refine sm_cal (t_X12_sheetOf v8 v12 a3) fun v13 => ?_
            exact t_X12_sheet_123  LFU a1 a3 ((a1 * (400 : Int32)) + a2) v13 (0 : Int32)
def N12_forme_32   : NM Int32 :=
  nb (N12_no (3 : Int32)) fun v1 =>
  nr v1
def N12_forme (a1 : Int32) (a2 : Int32) (a3 : Int32) (a4 : Int32) : NM Int32 :=
  nb (N12_isLeaf a1 a2) fun v1 =>
  if v1 = 0 then (nb (N12_no (1 : Int32)) fun v2 =>
  nr v2) else (nb (N12_isIn a3 (0 : Int32) (1 : Int32)) fun v3 =>
  if v3 = 0 then ((N12_forme_32  )) else (nb (N12_isFormat a4) fun v4 =>
  if v4 = 0 then ((N12_forme_32  )) else (nb (N12_isPlain a1 a2) fun v5 =>
  if v5 = 0 then (nb (N12_fine (-1 : Int32)) fun v6 =>
  nr v6) else (nb (naI 12 ((a1 * (400 : Int32)) + a2)) fun v7 =>
  nb (naI 8 ((a1 * (71 : Int32)) + v7)) fun v8 =>
  nb (naI 13 ((a1 * (400 : Int32)) + a2)) fun v9 =>
  nb (N12_numberOn v8 v9 a4) fun v10 =>
  nb (nrI ((v10 + (1 : Int32)) + a3) (2 : Int32)) fun v11 =>
  nb (N12_fine v11) fun v12 =>
  nr v12))))
theorem t_X12_forme_32 {m : Nat} {rf : Nat → Option Nat}  : Sm m rf (X12_forme_32  m) (N12_forme_32  ) := by
  unfold X12_forme_32 N12_forme_32
  refine sm_wc (t_X12_no (3 : Int32)) fun v1 => ?_
  exact sm_ret
theorem t_X12_forme {m : Nat} {rf : Nat → Option Nat} (a1 : Int32) (a2 : Int32) (a3 : Int32) (a4 : Int32) : Sm m rf (X12_forme m a1 a2 a3 a4) (N12_forme a1 a2 a3 a4) := by
  unfold X12_forme N12_forme
  refine sm_wc (t_X12_isLeaf a1 a2) fun v1 => ?_
  refine sm_ite ?_ ?_
  · refine sm_wc (t_X12_no (1 : Int32)) fun v2 => ?_
    exact sm_ret
  · refine sm_cal (t_X12_isIn a3 (0 : Int32) (1 : Int32)) fun v3 => ?_
    refine sm_ite ?_ ?_
    · exact t_X12_forme_32  
    · refine sm_cal (t_X12_isFormat a4) fun v4 => ?_
      refine sm_ite ?_ ?_
      · exact t_X12_forme_32  
      · refine sm_wc (t_X12_isPlain a1 a2) fun v5 => ?_
        refine sm_ite ?_ ?_
        · refine sm_wc (t_X12_fine (-1 : Int32)) fun v6 => ?_
          exact sm_ret
        · refine sm_gR (k := 8) (by decide) rfl ?_
          refine sm_gR (k := 12) (by decide) rfl ?_
          refine sm_aI fun v7 => ?_
          refine sm_aI fun v8 => ?_
          refine sm_gR (k := 13) (by decide) rfl ?_
          refine sm_aI fun v9 => ?_
          refine sm_cal (t_X12_numberOn v8 v9 a4) fun v10 => ?_
          refine sm_rI fun v11 => ?_
          refine sm_wc (t_X12_fine v11) fun v12 => ?_
          exact sm_ret
def N12_state (a1 : Int32) (a2 : Int32) : NM Int32 :=
  nb (N12_isCopy a1) fun v1 =>
  if v1 = 0 then (nb (N12_no (1 : Int32)) fun v2 =>
  nr v2) else (if a2 = 0 then (nb (naI 16 a1) fun v3 =>
  nb (N12_fine v3) fun v4 =>
  nr v4) else (if a2 = (1 : Int32) then (nb (naI 17 a1) fun v5 =>
  nb (N12_fine v5) fun v6 =>
  nr v6) else (nb (N12_isIn a2 (2 : Int32) (5 : Int32)) fun v7 =>
  if v7 = 0 then (nb (N12_no (3 : Int32)) fun v8 =>
  nr v8) else (nb (N12_look a1) fun _ =>
  nb (N12_countTold a1 a2) fun v9 =>
  nb (N12_fine v9) fun v10 =>
  nr v10))))
theorem t_X12_state {m : Nat} {rf : Nat → Option Nat} (a1 : Int32) (a2 : Int32) : Sm m rf (X12_state m a1 a2) (N12_state a1 a2) := by
  unfold X12_state N12_state
  refine sm_wc (t_X12_isCopy a1) fun v1 => ?_
  refine sm_ite ?_ ?_
  · refine sm_wc (t_X12_no (1 : Int32)) fun v2 => ?_
    exact sm_ret
  · refine sm_ite ?_ ?_
    · refine sm_gR (k := 16) (by decide) rfl ?_
      refine sm_aI fun v3 => ?_
      refine sm_wc (t_X12_fine v3) fun v4 => ?_
      exact sm_ret
    · refine sm_ite ?_ ?_
      · refine sm_gR (k := 17) (by decide) rfl ?_
        refine sm_aI fun v5 => ?_
        refine sm_wc (t_X12_fine v5) fun v6 => ?_
        exact sm_ret
      · refine sm_cal (t_X12_isIn a2 (2 : Int32) (5 : Int32)) fun v7 => ?_
        refine sm_ite ?_ ?_
        · refine sm_wc (t_X12_no (3 : Int32)) fun v8 => ?_
          exact sm_ret
        · refine sm_wc (t_X12_look a1) fun _ => ?_
          refine sm_wc (t_X12_countTold a1 a2) fun v9 => ?_
          refine sm_wc (t_X12_fine v9) fun v10 => ?_
          exact sm_ret
def N12_entry_43   : NM Int32 :=
  nb (N12_no (1 : Int32)) fun v1 =>
  nr v1
def N12_entry (a1 : Int32) (a2 : Int32) : NM Int32 :=
  nb (N12_isCopy a1) fun v1 =>
  if v1 = 0 then ((N12_entry_43  )) else (nb (naI 17 a1) fun v2 =>
  nb (N12_isIn a2 (0 : Int32) (v2 - (1 : Int32))) fun v3 =>
  if v3 = 0 then ((N12_entry_43  )) else (nb (naI 18 ((a1 * (400 : Int32)) + a2)) fun v4 =>
  nb (N12_fine v4) fun v5 =>
  nr v5))
theorem t_X12_entry_43 {m : Nat} {rf : Nat → Option Nat}  : Sm m rf (X12_entry_43  m) (N12_entry_43  ) := by
  unfold X12_entry_43 N12_entry_43
  refine sm_wc (t_X12_no (1 : Int32)) fun v1 => ?_
  exact sm_ret
theorem t_X12_entry {m : Nat} {rf : Nat → Option Nat} (a1 : Int32) (a2 : Int32) : Sm m rf (X12_entry m a1 a2) (N12_entry a1 a2) := by
  unfold X12_entry N12_entry
  refine sm_wc (t_X12_isCopy a1) fun v1 => ?_
  refine sm_ite ?_ ?_
  · exact t_X12_entry_43  
  · refine sm_gR (k := 17) (by decide) rfl ?_
    refine sm_aI fun v2 => ?_
    refine sm_cal (t_X12_isIn a2 (0 : Int32) (v2 - (1 : Int32))) fun v3 => ?_
    refine sm_ite ?_ ?_
    · exact t_X12_entry_43  
    · refine sm_gR (k := 18) (by decide) rfl ?_
      refine sm_aI fun v4 => ?_
      refine sm_wc (t_X12_fine v4) fun v5 => ?_
      exact sm_ret
def N12_told_70  (x5 : Int32) : NM Int32 :=
  nb (N12_fine x5) fun v1 =>
  nr v1
def N12_told_80 (k40 : Int32 → Int32 → Int32 → Int32 → NM Int32) (x1 : Int32) (x2 : Int32) (x4 : Int32) (x5 : Int32) : NM Int32 :=
  (k40 x1 x2 x4 (x5 + (1 : Int32)))
def N12_told_86   : NM Int32 :=
  nb (N12_no (1 : Int32)) fun v1 =>
  nr v1
def N12_told_40_st  (k40 : Int32 → Int32 → Int32 → Int32 → NM Int32) (x1 : Int32) (x2 : Int32) (x4 : Int32) (x5 : Int32) : NM Int32 :=
  nb (N12_many x1 x2) fun v1 =>
  if v1 ≤ x5 then ((N12_told_86  )) else (nb (N12_isTold x1 x2 x5) fun v2 =>
  if v2 = 0 then ((N12_told_80 k40 x1 x2 x4 x5)) else (if x4 = 0 then ((N12_told_70  x5)) else ((N12_told_80 k40 x1 x2 (x4 + (-1 : Int32)) x5))))
def N12_told_40  : Nat → Int32 → Int32 → Int32 → Int32 → NM Int32
  | 0 => fun _ _ _ _ => nf
  | n + 1 => fun x1 x2 x4 x5 => N12_told_40_st  (N12_told_40  n) x1 x2 x4 x5
def N12_told (a1 : Int32) (a2 : Int32) (a3 : Int32) : NM Int32 :=
  nb (N12_isCopy a1) fun v1 =>
  if v1 = 0 then (nb (N12_no (1 : Int32)) fun v2 =>
  nr v2) else (nb (N12_isIn a2 (2 : Int32) (5 : Int32)) fun v3 =>
  if v3 = 0 then (nb (N12_no (3 : Int32)) fun v4 =>
  nr v4) else (nb (N12_look a1) fun _ =>
  (N12_told_40  LFU a1 a2 a3 (0 : Int32))))
theorem t_X12_told_70 {m : Nat} {rf : Nat → Option Nat} (x5 : Int32) : Sm m rf (X12_told_70  m x5) (N12_told_70  x5) := by
  unfold X12_told_70 N12_told_70
  refine sm_wc (t_X12_fine x5) fun v1 => ?_
  exact sm_ret
theorem t_X12_told_80 {m : Nat} {rf : Nat → Option Nat} {k40 : Int32 → Int32 → Int32 → Int32 → NM Int32} (K40 : Nat → Int32 → Int32 → Int32 → Int32 → MM Int32) (hk40 : ∀ (x1 : Int32) (x2 : Int32) (x4 : Int32) (x5 : Int32), Sm m rf (K40 m x1 x2 x4 x5) (k40 x1 x2 x4 x5)) (x1 : Int32) (x2 : Int32) (x4 : Int32) (x5 : Int32) : Sm m rf (X12_told_80 K40 m x1 x2 x4 x5) (N12_told_80 k40 x1 x2 x4 x5) := by
  unfold X12_told_80 N12_told_80
  exact hk40 x1 x2 x4 (x5 + (1 : Int32))
theorem t_X12_told_86 {m : Nat} {rf : Nat → Option Nat}  : Sm m rf (X12_told_86  m) (N12_told_86  ) := by
  unfold X12_told_86 N12_told_86
  refine sm_wc (t_X12_no (1 : Int32)) fun v1 => ?_
  exact sm_ret
theorem t_X12_told_40_st {m : Nat} {rf : Nat → Option Nat} {k40 : Int32 → Int32 → Int32 → Int32 → NM Int32} (K40 : Nat → Int32 → Int32 → Int32 → Int32 → MM Int32) (hk40 : ∀ (x1 : Int32) (x2 : Int32) (x4 : Int32) (x5 : Int32), Sm m rf (K40 m x1 x2 x4 x5) (k40 x1 x2 x4 x5)) (x1 : Int32) (x2 : Int32) (x4 : Int32) (x5 : Int32) : Sm m rf (X12_told_40_st  K40 m x1 x2 x4 x5) (N12_told_40_st  k40 x1 x2 x4 x5) := by
  unfold X12_told_40_st N12_told_40_st
  refine sm_wc (t_X12_many x1 x2) fun v1 => ?_
  refine sm_ite ?_ ?_
  · exact t_X12_told_86  
  · refine sm_wc (t_X12_isTold x1 x2 x5) fun v2 => ?_
    refine sm_ite ?_ ?_
    · exact t_X12_told_80 _ hk40 x1 x2 x4 x5
    · refine sm_ite ?_ ?_
      · exact t_X12_told_70  x5
      · exact t_X12_told_80 _ hk40 x1 x2 (x4 + (-1 : Int32)) x5
theorem t_X12_told_40 {m : Nat} {rf : Nat → Option Nat} : ∀ (n : Nat) (x1 : Int32) (x2 : Int32) (x4 : Int32) (x5 : Int32), Sm m rf (X12_told_40  n m x1 x2 x4 x5) (N12_told_40  n x1 x2 x4 x5) := by
  intro n
  induction n with
  | zero => intro x1 x2 x4 x5; exact sm_mf
  | succ n ih => intro x1 x2 x4 x5; exact t_X12_told_40_st  _ ih x1 x2 x4 x5
theorem t_X12_told {m : Nat} {rf : Nat → Option Nat} (a1 : Int32) (a2 : Int32) (a3 : Int32) : Sm m rf (X12_told m a1 a2 a3) (N12_told a1 a2 a3) := by
  unfold X12_told N12_told
  refine sm_wc (t_X12_isCopy a1) fun v1 => ?_
  refine sm_ite ?_ ?_
  · refine sm_wc (t_X12_no (1 : Int32)) fun v2 => ?_
    exact sm_ret
  · refine sm_cal (t_X12_isIn a2 (2 : Int32) (5 : Int32)) fun v3 => ?_
    refine sm_ite ?_ ?_
    · refine sm_wc (t_X12_no (3 : Int32)) fun v4 => ?_
      exact sm_ret
    · refine sm_wc (t_X12_look a1) fun _ => ?_
      exact t_X12_told_40  LFU a1 a2 a3 (0 : Int32)
def N12_note (a1 : Int32) (a2 : Int32) : NM Int32 :=
  nb (N12_isCopy a1) fun v1 =>
  if v1 = 0 then (nb (N12_no (1 : Int32)) fun v2 =>
  nr v2) else (nb (N12_writeNote a1) fun _ =>
  nb (N12_tell a2) fun v3 =>
  nr v3)
theorem t_X12_note {m : Nat} {rf : Nat → Option Nat} (a1 : Int32) (a2 : Int32) : Sm m rf (X12_note m a1 a2) (N12_note a1 a2) := by
  unfold X12_note N12_note
  refine sm_wc (t_X12_isCopy a1) fun v1 => ?_
  refine sm_ite ?_ ?_
  · refine sm_wc (t_X12_no (1 : Int32)) fun v2 => ?_
    exact sm_ret
  · refine sm_wc (t_X12_writeNote a1) fun _ => ?_
    refine sm_wc (t_X12_tell a2) fun v3 => ?_
    exact sm_ret
def N12_mark_21_st  (k21 : Int32 → Nat → Int32 → NM Unit) (x1 : Int32) (x2 : Nat) (x3 : Int32) : NM Unit :=
  nb (naI 17 x1) fun v1 =>
  if v1 ≤ x3 then (nr ()) else (nb (naI 18 ((x1 * (400 : Int32)) + x3)) fun v2 =>
  nb (nsZ x2 v2 (1 : Int32)) fun _ =>
  (k21 x1 x2 (x3 + (1 : Int32))))
def N12_mark_21  : Nat → Int32 → Nat → Int32 → NM Unit
  | 0 => fun _ _ _ => nf
  | n + 1 => fun x1 x2 x3 => N12_mark_21_st  (N12_mark_21  n) x1 x2 x3
def N12_mark_19  (x1 : Int32) (x2 : Nat) : NM Unit :=
  (N12_mark_21  LFU x1 x2 (0 : Int32))
def N12_mark_2_st  (k2 : Int32 → Nat → Int32 → NM Unit) (x1 : Int32) (x2 : Nat) (x3 : Int32) : NM Unit :=
  if (400 : Int32) ≤ x3 then ((N12_mark_19  x1 x2)) else (nb (nsZ x2 x3 (0 : Int32)) fun _ =>
  (k2 x1 x2 (x3 + (1 : Int32))))
def N12_mark_2  : Nat → Int32 → Nat → Int32 → NM Unit
  | 0 => fun _ _ _ => nf
  | n + 1 => fun x1 x2 x3 => N12_mark_2_st  (N12_mark_2  n) x1 x2 x3
def N12_mark (a1 : Int32) (a2 : Nat) : NM Unit :=
  (N12_mark_2  LFU a1 a2 (0 : Int32))
theorem t_X12_mark_21_st {m : Nat} {rf : Nat → Option Nat} {k21 : Int32 → Nat → Int32 → NM Unit} (K21 : Nat → Int32 → Option Nat → Int32 → MM Unit) (hk21 : ∀ (x1 : Int32) (x2 : Nat) (x3 : Int32), Sm m rf (K21 m x1 (some (m + oM x2)) x3) (k21 x1 x2 x3)) (x1 : Int32) (x2 : Nat) (x3 : Int32) : Sm m rf (X12_mark_21_st  K21 m x1 (some (m + oM x2)) x3) (N12_mark_21_st  k21 x1 x2 x3) := by
  unfold X12_mark_21_st N12_mark_21_st
  refine sm_gR (k := 17) (by decide) rfl ?_
  refine sm_aI fun v1 => ?_
  refine sm_ite ?_ ?_
  · exact sm_ret
  · refine sm_gR (k := 18) (by decide) rfl ?_
    refine sm_aI fun v2 => ?_
    refine sm_sB ?_
    exact hk21 x1 x2 (x3 + (1 : Int32))
theorem t_X12_mark_21 {m : Nat} {rf : Nat → Option Nat} : ∀ (n : Nat) (x1 : Int32) (x2 : Nat) (x3 : Int32), Sm m rf (X12_mark_21  n m x1 (some (m + oM x2)) x3) (N12_mark_21  n x1 x2 x3) := by
  intro n
  induction n with
  | zero => intro x1 x2 x3; exact sm_mf
  | succ n ih => intro x1 x2 x3; exact t_X12_mark_21_st  _ ih x1 x2 x3
theorem t_X12_mark_19 {m : Nat} {rf : Nat → Option Nat} (x1 : Int32) (x2 : Nat) : Sm m rf (X12_mark_19  m x1 (some (m + oM x2))) (N12_mark_19  x1 x2) := by
  unfold X12_mark_19 N12_mark_19
  exact t_X12_mark_21  LFU x1 x2 (0 : Int32)
theorem t_X12_mark_2_st {m : Nat} {rf : Nat → Option Nat} {k2 : Int32 → Nat → Int32 → NM Unit} (K2 : Nat → Int32 → Option Nat → Int32 → MM Unit) (hk2 : ∀ (x1 : Int32) (x2 : Nat) (x3 : Int32), Sm m rf (K2 m x1 (some (m + oM x2)) x3) (k2 x1 x2 x3)) (x1 : Int32) (x2 : Nat) (x3 : Int32) : Sm m rf (X12_mark_2_st  K2 m x1 (some (m + oM x2)) x3) (N12_mark_2_st  k2 x1 x2 x3) := by
  unfold X12_mark_2_st N12_mark_2_st
  refine sm_ite ?_ ?_
  · exact t_X12_mark_19  x1 x2
  · refine sm_sB ?_
    exact hk2 x1 x2 (x3 + (1 : Int32))
theorem t_X12_mark_2 {m : Nat} {rf : Nat → Option Nat} : ∀ (n : Nat) (x1 : Int32) (x2 : Nat) (x3 : Int32), Sm m rf (X12_mark_2  n m x1 (some (m + oM x2)) x3) (N12_mark_2  n x1 x2 x3) := by
  intro n
  induction n with
  | zero => intro x1 x2 x3; exact sm_mf
  | succ n ih => intro x1 x2 x3; exact t_X12_mark_2_st  _ ih x1 x2 x3
theorem t_X12_mark {m : Nat} {rf : Nat → Option Nat} (a1 : Int32) (a2 : Nat) : Sm m rf (X12_mark m a1 (some (m + oM a2))) (N12_mark a1 a2) := by
  unfold X12_mark N12_mark
  exact t_X12_mark_2  LFU a1 a2 (0 : Int32)
def N12_twoWhy (a1 : Int32) (a2 : Int32) : NM Int32 :=
  nb (N12_isCopy a1) fun v1 =>
  if v1 = 0 then (nr (1 : Int32)) else (nb (N12_isCopy a2) fun v2 =>
  if v2 = 0 then (nr (1 : Int32)) else (nb (naI 16 a1) fun v3 =>
  nb (naI 16 a2) fun v4 =>
  if v3 = v4 then (nr (0 : Int32)) else (nr (4 : Int32))))
theorem t_X12_twoWhy {m : Nat} {rf : Nat → Option Nat} (a1 : Int32) (a2 : Int32) : Sm m rf (X12_twoWhy m a1 a2) (N12_twoWhy a1 a2) := by
  unfold X12_twoWhy N12_twoWhy
  refine sm_wc (t_X12_isCopy a1) fun v1 => ?_
  refine sm_ite ?_ ?_
  · exact sm_ret
  · refine sm_wc (t_X12_isCopy a2) fun v2 => ?_
    refine sm_ite ?_ ?_
    · exact sm_ret
    · refine sm_gR (k := 16) (by decide) rfl ?_
      refine sm_aI fun v3 => ?_
      refine sm_gR (k := 16) (by decide) rfl ?_
      refine sm_aI fun v4 => ?_
      refine sm_ite ?_ ?_
      · exact sm_ret
      · exact sm_ret
def N12_apart_73 (k41 : Int32 → Int32 → NM Int32) (x5 : Int32) (y0 : Int32) (y1 : Int32) : NM Int32 :=
  (k41 (y1 + y0) (x5 + (1 : Int32)))
def N12_apart_82  (x4 : Int32) : NM Int32 :=
  nb (N12_fine x4) fun v1 =>
  nr v1
def N12_apart_41_st  (k41 : Int32 → Int32 → NM Int32) (x4 : Int32) (x5 : Int32) : NM Int32 :=
  if (400 : Int32) ≤ x5 then ((N12_apart_82  x4)) else (nb (naZ 47 x5) fun v1 =>
  nb (naZ 48 x5) fun v2 =>
  if v1 = v2 then ((N12_apart_73 k41 x5 (0 : Int32) x4)) else ((N12_apart_73 k41 x5 (1 : Int32) x4)))
def N12_apart_41  : Nat → Int32 → Int32 → NM Int32
  | 0 => fun _ _ => nf
  | n + 1 => fun x4 x5 => N12_apart_41_st  (N12_apart_41  n) x4 x5
def N12_apart (a1 : Int32) (a2 : Int32) : NM Int32 :=
  nb (N12_twoWhy a1 a2) fun v1 =>
  if v1 ≤ 0 then (nb (N12_mark a1 47) fun _ =>
  nb (N12_mark a2 48) fun _ =>
  (N12_apart_41  LFU (0 : Int32) (0 : Int32))) else (nb (N12_no v1) fun v2 =>
  nr v2)
theorem t_X12_apart_73 {m : Nat} {rf : Nat → Option Nat} {k41 : Int32 → Int32 → NM Int32} (K41 : Nat → Int32 → Int32 → MM Int32) (hk41 : ∀ (x4 : Int32) (x5 : Int32), Sm m rf (K41 m x4 x5) (k41 x4 x5)) (x5 : Int32) (y0 : Int32) (y1 : Int32) : Sm m rf (X12_apart_73 K41 m x5 y0 y1) (N12_apart_73 k41 x5 y0 y1) := by
  unfold X12_apart_73 N12_apart_73
  exact hk41 (y1 + y0) (x5 + (1 : Int32))
theorem t_X12_apart_82 {m : Nat} {rf : Nat → Option Nat} (x4 : Int32) : Sm m rf (X12_apart_82  m x4) (N12_apart_82  x4) := by
  unfold X12_apart_82 N12_apart_82
  refine sm_wc (t_X12_fine x4) fun v1 => ?_
  exact sm_ret
theorem t_X12_apart_41_st {m : Nat} {rf : Nat → Option Nat} {k41 : Int32 → Int32 → NM Int32} (K41 : Nat → Int32 → Int32 → MM Int32) (hk41 : ∀ (x4 : Int32) (x5 : Int32), Sm m rf (K41 m x4 x5) (k41 x4 x5)) (x4 : Int32) (x5 : Int32) : Sm m rf (X12_apart_41_st  K41 m x4 x5) (N12_apart_41_st  k41 x4 x5) := by
  unfold X12_apart_41_st N12_apart_41_st
  refine sm_ite ?_ ?_
  · exact t_X12_apart_82  x4
  · refine sm_gR (k := 47) (by decide) rfl ?_
    refine sm_aB fun v1 => ?_
    refine sm_gR (k := 48) (by decide) rfl ?_
    refine sm_aB fun v2 => ?_
    refine sm_ite ?_ ?_
    · exact t_X12_apart_73 _ hk41 x5 (0 : Int32) x4
    · exact t_X12_apart_73 _ hk41 x5 (1 : Int32) x4
theorem t_X12_apart_41 {m : Nat} {rf : Nat → Option Nat} : ∀ (n : Nat) (x4 : Int32) (x5 : Int32), Sm m rf (X12_apart_41  n m x4 x5) (N12_apart_41  n x4 x5) := by
  intro n
  induction n with
  | zero => intro x4 x5; exact sm_mf
  | succ n ih => intro x4 x5; exact t_X12_apart_41_st  _ ih x4 x5
theorem t_X12_apart {m : Nat} {rf : Nat → Option Nat} (a1 : Int32) (a2 : Int32) : Sm m rf (X12_apart m a1 a2) (N12_apart a1 a2) := by
  unfold X12_apart N12_apart
  refine sm_wc (t_X12_twoWhy a1 a2) fun v1 => ?_
  refine sm_ite ?_ ?_
  · refine sm_gR (k := 47) (by decide) rfl ?_
    refine sm_wc (t_X12_mark a1 47) fun _ => ?_
    refine sm_gR (k := 48) (by decide) rfl ?_
    refine sm_wc (t_X12_mark a2 48) fun _ => ?_
    exact t_X12_apart_41  LFU (0 : Int32) (0 : Int32)
  · refine sm_wc (t_X12_no v1) fun v2 => ?_
    exact sm_ret
def N12_together_113 (k63 : Int32 → Int32 → Int32 → Int32 → NM Int32) (x1 : Int32) (x4 : Int32) (x5 : Int32) (x6 : Int32) : NM Int32 :=
  (k63 x1 x4 x5 (x6 + (1 : Int32)))
def N12_together_94 (k63 : Int32 → Int32 → Int32 → Int32 → NM Int32) (x1 : Int32) (x4 : Int32) (x5 : Int32) (x6 : Int32) : NM Int32 :=
  nb (nsI 18 ((x4 * (400 : Int32)) + x5) x6) fun _ =>
  (N12_together_113 k63 x1 x4 (x5 + (1 : Int32)) x6)
def N12_together_119  (x1 : Int32) (x4 : Int32) (x5 : Int32) : NM Int32 :=
  nb (nsI 17 x4 x5) fun _ =>
  nb (naI 16 x1) fun v1 =>
  nb (nsI 16 x4 v1) fun _ =>
  nb (ngI 15) fun v2 =>
  nb (npI 15 (v2 + (1 : Int32))) fun _ =>
  nb (N12_fine x4) fun v3 =>
  nr v3
def N12_together_63_st  (k63 : Int32 → Int32 → Int32 → Int32 → NM Int32) (x1 : Int32) (x4 : Int32) (x5 : Int32) (x6 : Int32) : NM Int32 :=
  if (400 : Int32) ≤ x6 then ((N12_together_119  x1 x4 x5)) else (nb (naZ 47 x6) fun v1 =>
  if v1 = 0 then (nb (naZ 48 x6) fun v2 =>
  if v2 = 0 then ((N12_together_113 k63 x1 x4 x5 x6)) else ((N12_together_94 k63 x1 x4 x5 x6))) else ((N12_together_94 k63 x1 x4 x5 x6)))
def N12_together_63  : Nat → Int32 → Int32 → Int32 → Int32 → NM Int32
  | 0 => fun _ _ _ _ => nf
  | n + 1 => fun x1 x4 x5 x6 => N12_together_63_st  (N12_together_63  n) x1 x4 x5 x6
def N12_together (a1 : Int32) (a2 : Int32) : NM Int32 :=
  nb (N12_twoWhy a1 a2) fun v1 =>
  if v1 ≤ 0 then (nb (ngI 15) fun v2 =>
  if v2 = (16 : Int32) then (nb (N12_no (9 : Int32)) fun v3 =>
  nr v3) else (nb (N12_mark a1 47) fun _ =>
  nb (N12_mark a2 48) fun _ =>
  nb (ngI 15) fun v4 =>
  (N12_together_63  LFU a1 v4 (0 : Int32) (0 : Int32)))) else (nb (N12_no v1) fun v5 =>
  nr v5)
theorem t_X12_together_113 {m : Nat} {rf : Nat → Option Nat} {k63 : Int32 → Int32 → Int32 → Int32 → NM Int32} (K63 : Nat → Int32 → Int32 → Int32 → Int32 → MM Int32) (hk63 : ∀ (x1 : Int32) (x4 : Int32) (x5 : Int32) (x6 : Int32), Sm m rf (K63 m x1 x4 x5 x6) (k63 x1 x4 x5 x6)) (x1 : Int32) (x4 : Int32) (x5 : Int32) (x6 : Int32) : Sm m rf (X12_together_113 K63 m x1 x4 x5 x6) (N12_together_113 k63 x1 x4 x5 x6) := by
  unfold X12_together_113 N12_together_113
  exact hk63 x1 x4 x5 (x6 + (1 : Int32))
theorem t_X12_together_94 {m : Nat} {rf : Nat → Option Nat} {k63 : Int32 → Int32 → Int32 → Int32 → NM Int32} (K63 : Nat → Int32 → Int32 → Int32 → Int32 → MM Int32) (hk63 : ∀ (x1 : Int32) (x4 : Int32) (x5 : Int32) (x6 : Int32), Sm m rf (K63 m x1 x4 x5 x6) (k63 x1 x4 x5 x6)) (x1 : Int32) (x4 : Int32) (x5 : Int32) (x6 : Int32) : Sm m rf (X12_together_94 K63 m x1 x4 x5 x6) (N12_together_94 k63 x1 x4 x5 x6) := by
  unfold X12_together_94 N12_together_94
  refine sm_gR (k := 18) (by decide) rfl ?_
  refine sm_sI ?_
  exact t_X12_together_113 _ hk63 x1 x4 (x5 + (1 : Int32)) x6
theorem t_X12_together_119 {m : Nat} {rf : Nat → Option Nat} (x1 : Int32) (x4 : Int32) (x5 : Int32) : Sm m rf (X12_together_119  m x1 x4 x5) (N12_together_119  x1 x4 x5) := by
  unfold X12_together_119 N12_together_119
  refine sm_gR (k := 17) (by decide) rfl ?_
  refine sm_sI ?_
  refine sm_gR (k := 16) (by decide) rfl ?_
  refine sm_gR (k := 16) (by decide) rfl ?_
  refine sm_aI fun v1 => ?_
  refine sm_sI ?_
  refine sm_gI (k := 15) (by decide) rfl fun v2 => ?_
  refine sm_pI (k := 15) (by decide) rfl ?_
  refine sm_wc (t_X12_fine x4) fun v3 => ?_
  exact sm_ret
theorem t_X12_together_63_st {m : Nat} {rf : Nat → Option Nat} {k63 : Int32 → Int32 → Int32 → Int32 → NM Int32} (K63 : Nat → Int32 → Int32 → Int32 → Int32 → MM Int32) (hk63 : ∀ (x1 : Int32) (x4 : Int32) (x5 : Int32) (x6 : Int32), Sm m rf (K63 m x1 x4 x5 x6) (k63 x1 x4 x5 x6)) (x1 : Int32) (x4 : Int32) (x5 : Int32) (x6 : Int32) : Sm m rf (X12_together_63_st  K63 m x1 x4 x5 x6) (N12_together_63_st  k63 x1 x4 x5 x6) := by
  unfold X12_together_63_st N12_together_63_st
  refine sm_ite ?_ ?_
  · exact t_X12_together_119  x1 x4 x5
  · refine sm_gR (k := 47) (by decide) rfl ?_
    refine sm_aB fun v1 => ?_
    refine sm_ite ?_ ?_
    · refine sm_gR (k := 48) (by decide) rfl ?_
      refine sm_aB fun v2 => ?_
      refine sm_ite ?_ ?_
      · exact t_X12_together_113 _ hk63 x1 x4 x5 x6
      · exact t_X12_together_94 _ hk63 x1 x4 x5 x6
    · exact t_X12_together_94 _ hk63 x1 x4 x5 x6
theorem t_X12_together_63 {m : Nat} {rf : Nat → Option Nat} : ∀ (n : Nat) (x1 : Int32) (x4 : Int32) (x5 : Int32) (x6 : Int32), Sm m rf (X12_together_63  n m x1 x4 x5 x6) (N12_together_63  n x1 x4 x5 x6) := by
  intro n
  induction n with
  | zero => intro x1 x4 x5 x6; exact sm_mf
  | succ n ih => intro x1 x4 x5 x6; exact t_X12_together_63_st  _ ih x1 x4 x5 x6
theorem t_X12_together {m : Nat} {rf : Nat → Option Nat} (a1 : Int32) (a2 : Int32) : Sm m rf (X12_together m a1 a2) (N12_together a1 a2) := by
  unfold X12_together N12_together
  refine sm_wc (t_X12_twoWhy a1 a2) fun v1 => ?_
  refine sm_ite ?_ ?_
  · refine sm_gI (k := 15) (by decide) rfl fun v2 => ?_
    refine sm_ite ?_ ?_
    · refine sm_wc (t_X12_no (9 : Int32)) fun v3 => ?_
      exact sm_ret
    · refine sm_gR (k := 47) (by decide) rfl ?_
      refine sm_wc (t_X12_mark a1 47) fun _ => ?_
      refine sm_gR (k := 48) (by decide) rfl ?_
      refine sm_wc (t_X12_mark a2 48) fun _ => ?_
      refine sm_gI (k := 15) (by decide) rfl fun v4 => ?_
      exact t_X12_together_63  LFU a1 v4 (0 : Int32) (0 : Int32)
  · refine sm_wc (t_X12_no v1) fun v5 => ?_
    exact sm_ret
def N12_status  : NM Int32 :=
  nb (ngI 2) fun v1 =>
  nr v1
theorem t_X12_status {m : Nat} {rf : Nat → Option Nat}  : Sm m rf (X12_status m) (N12_status ) := by
  unfold X12_status N12_status
  refine sm_gI (k := 2) (by decide) rfl fun v1 => ?_
  exact sm_ret
