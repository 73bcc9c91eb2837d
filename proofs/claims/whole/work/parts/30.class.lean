def C10_hasRoom (a1 : Int32) : CM Int32 :=
  cb (cG 2 0) fun v1 =>
  cb (cN 2 0) fun v2 =>
  if v2 < (v1 + a1) then (cr (0 : Int32)) else (cr (1 : Int32))
theorem u_X10_hasRoom {am : AM} (a1 : Int32) : Sc am id (X10_hasRoom (am.1 + 1) a1) (C10_hasRoom a1) := by
  unfold X10_hasRoom C10_hasRoom
  refine sc_gI (t := 2) (i := 0) rfl (fun _ => ⟨_, rfl, rfl⟩) fun v1 => ?_
  refine sc_gR (q := (6, 0)) (b := (aAr am 2 0)) (fun _ => rfl) rfl (fun _ => ⟨_, rfl, rfl⟩) ?_
  refine sc_aN (t := 2) (i := 0) fun v2 => ?_
  refine sc_ite ?_ ?_
  · exact sc_ret
  · exact sc_ret
def C11_refuse (a1 : Int32) : CM Int32 :=
  cb (cP 11 0 a1) fun _ =>
  cr (-9 : Int32)
theorem u_X11_refuse {am : AM} (a1 : Int32) : Sc am id (X11_refuse am.1 a1) (C11_refuse a1) := by
  unfold X11_refuse C11_refuse
  refine sc_pI (t := 11) (i := 0) (by decide) rfl (fun _ => ⟨_, rfl, Nat.le_of_ble_eq_true rfl, celp11⟩) ?_
  exact sc_ret
def C10_addWord_39 (k3 : Int32 → Int32 → CM Unit) (x1 : Int32) (x2 : Int32) : CM Unit :=
  (k3 x1 (x2 + (-8 : Int32)))
def C10_addWord_3_st  (k3 : Int32 → Int32 → CM Unit) (x1 : Int32) (x2 : Int32) : CM Unit :=
  if x2 < 0 then (cr ()) else (cb (cG 2 0) fun v1 =>
  cb (cN 2 0) fun v2 =>
  if v2 ≤ v1 then ((C10_addWord_39 k3 x1 x2)) else (cb (cG 2 0) fun v3 =>
  cb (cP 2 0 (v3 + (1 : Int32))) fun _ =>
  cb (cSb 2 0 v3 (((x1 >>> (x2 &&& 31))).toInt8.toInt32)) fun _ =>
  (C10_addWord_39 k3 x1 x2)))
def C10_addWord_3  : Nat → Int32 → Int32 → CM Unit
  | 0 => fun _ _ => cf
  | n + 1 => fun x1 x2 => C10_addWord_3_st  (C10_addWord_3  n) x1 x2
def C10_addWord (a1 : Int32) : CM Unit :=
  (C10_addWord_3  LFU a1 (24 : Int32))
theorem u_X10_addWord_39 {am : AM} {k3 : Int32 → Int32 → CM Unit} (K3 : Nat → Int32 → Int32 → MM Unit) (hk3 : ∀ (x1 : Int32) (x2 : Int32), Sc am id (K3 (am.1 + 1) x1 x2) (k3 x1 x2)) (x1 : Int32) (x2 : Int32) : Sc am id (X10_addWord_39 K3 (am.1 + 1) x1 x2) (C10_addWord_39 k3 x1 x2) := by
  unfold X10_addWord_39 C10_addWord_39
  exact hk3 x1 (x2 + (-8 : Int32))
theorem u_X10_addWord_3_st {am : AM} {k3 : Int32 → Int32 → CM Unit} (K3 : Nat → Int32 → Int32 → MM Unit) (hk3 : ∀ (x1 : Int32) (x2 : Int32), Sc am id (K3 (am.1 + 1) x1 x2) (k3 x1 x2)) (x1 : Int32) (x2 : Int32) : Sc am id (X10_addWord_3_st  K3 (am.1 + 1) x1 x2) (C10_addWord_3_st  k3 x1 x2) := by
  unfold X10_addWord_3_st C10_addWord_3_st
  refine sc_ite ?_ ?_
  · exact sc_ret
  · refine sc_gI (t := 2) (i := 0) rfl (fun _ => ⟨_, rfl, rfl⟩) fun v1 => ?_
    refine sc_gR (q := (6, 0)) (b := (aAr am 2 0)) (fun _ => rfl) rfl (fun _ => ⟨_, rfl, rfl⟩) ?_
    refine sc_aN (t := 2) (i := 0) fun v2 => ?_
    refine sc_ite ?_ ?_
    · exact u_X10_addWord_39 _ hk3 x1 x2
    · refine sc_gR (q := (6, 0)) (b := (aAr am 2 0)) (fun _ => rfl) rfl (fun _ => ⟨_, rfl, rfl⟩) ?_
      refine sc_gI (t := 2) (i := 0) rfl (fun _ => ⟨_, rfl, rfl⟩) fun v3 => ?_
      refine sc_pI (t := 2) (i := 0) (by decide) rfl (fun _ => ⟨_, rfl, Nat.le_of_ble_eq_true rfl, celp2⟩) ?_
      refine sc_sB (t := 2) (i := 0) ?_
      exact u_X10_addWord_39 _ hk3 x1 x2
theorem u_X10_addWord_3 {am : AM} : ∀ (n : Nat) (x1 : Int32) (x2 : Int32), Sc am id (X10_addWord_3  n (am.1 + 1) x1 x2) (C10_addWord_3  n x1 x2) := by
  intro n
  induction n with
  | zero => intro x1 x2; exact sc_mf
  | succ n ih => intro x1 x2; exact u_X10_addWord_3_st  _ ih x1 x2
theorem u_X10_addWord {am : AM} (a1 : Int32) : Sc am id (X10_addWord (am.1 + 1) a1) (C10_addWord a1) := by
  unfold X10_addWord C10_addWord
  exact u_X10_addWord_3  LFU a1 (24 : Int32)
def C11_answer (a1 : Int32) : CM Int32 :=
  cb (cP 11 0 (0 : Int32)) fun _ =>
  cr a1
theorem u_X11_answer {am : AM} (a1 : Int32) : Sc am id (X11_answer am.1 a1) (C11_answer a1) := by
  unfold X11_answer C11_answer
  refine sc_pI (t := 11) (i := 0) (by decide) rfl (fun _ => ⟨_, rfl, Nat.le_of_ble_eq_true rfl, celp11⟩) ?_
  exact sc_ret
def C11_feed (a1 : Int32) (a2 : Int32) (a3 : Int32) (a4 : Int32) (a5 : Int32) : CM Int32 :=
  cb (C10_hasRoom (20 : Int32)) fun v1 =>
  if v1 = 0 then (cb (C11_refuse (9 : Int32)) fun v2 =>
  cr v2) else (cb (C10_addWord a1) fun _ =>
  cb (C10_addWord a2) fun _ =>
  cb (C10_addWord a3) fun _ =>
  cb (C10_addWord a4) fun _ =>
  cb (C10_addWord a5) fun _ =>
  cb (cG 2 0) fun v3 =>
  cb (C11_answer v3) fun v4 =>
  cr v4)
theorem u_X11_feed {am : AM} (a1 : Int32) (a2 : Int32) (a3 : Int32) (a4 : Int32) (a5 : Int32) : Sc am id (X11_feed am.1 a1 a2 a3 a4 a5) (C11_feed a1 a2 a3 a4 a5) := by
  unfold X11_feed C11_feed
  refine sc_gR (q := (5, 0)) (b := (am.1 + 1)) (fun _ => rfl) rfl (fun _ => ⟨_, rfl, rfl⟩) ?_
  refine sc_wc (q := (6, 0)) (k := id) (fun _ => rfl) rfl (fun _ => ⟨_, rfl⟩) (u_X10_hasRoom (20 : Int32)) fun v1 => ?_
  refine sc_ite ?_ ?_
  · refine sc_wc (q := (5, 0)) (k := id) (fun _ => rfl) rfl (fun _ => ⟨_, rfl⟩) (u_X11_refuse (9 : Int32)) fun v2 => ?_
    exact sc_ret
  · refine sc_gR (q := (5, 0)) (b := (am.1 + 1)) (fun _ => rfl) rfl (fun _ => ⟨_, rfl, rfl⟩) ?_
    refine sc_wc (q := (6, 0)) (k := id) (fun _ => rfl) rfl (fun _ => ⟨_, rfl⟩) (u_X10_addWord a1) fun _ => ?_
    refine sc_gR (q := (5, 0)) (b := (am.1 + 1)) (fun _ => rfl) rfl (fun _ => ⟨_, rfl, rfl⟩) ?_
    refine sc_wc (q := (6, 0)) (k := id) (fun _ => rfl) rfl (fun _ => ⟨_, rfl⟩) (u_X10_addWord a2) fun _ => ?_
    refine sc_gR (q := (5, 0)) (b := (am.1 + 1)) (fun _ => rfl) rfl (fun _ => ⟨_, rfl, rfl⟩) ?_
    refine sc_wc (q := (6, 0)) (k := id) (fun _ => rfl) rfl (fun _ => ⟨_, rfl⟩) (u_X10_addWord a3) fun _ => ?_
    refine sc_gR (q := (5, 0)) (b := (am.1 + 1)) (fun _ => rfl) rfl (fun _ => ⟨_, rfl, rfl⟩) ?_
    refine sc_wc (q := (6, 0)) (k := id) (fun _ => rfl) rfl (fun _ => ⟨_, rfl⟩) (u_X10_addWord a4) fun _ => ?_
    refine sc_gR (q := (5, 0)) (b := (am.1 + 1)) (fun _ => rfl) rfl (fun _ => ⟨_, rfl, rfl⟩) ?_
    refine sc_wc (q := (6, 0)) (k := id) (fun _ => rfl) rfl (fun _ => ⟨_, rfl⟩) (u_X10_addWord a5) fun _ => ?_
    refine sc_gR (q := (5, 0)) (b := (am.1 + 1)) (fun _ => rfl) rfl (fun _ => ⟨_, rfl, rfl⟩) ?_
    refine sc_gI (t := 2) (i := 0) rfl (fun _ => ⟨_, rfl, rfl⟩) fun v3 => ?_
    refine sc_wc (q := (5, 0)) (k := id) (fun _ => rfl) rfl (fun _ => ⟨_, rfl⟩) (u_X11_answer v3) fun v4 => ?_
    exact sc_ret
def C10_cutTo (a1 : Int32) : CM Unit :=
  cb (cP 2 0 a1) fun _ =>
  cr ()
theorem u_X10_cutTo {am : AM} (a1 : Int32) : Sc am id (X10_cutTo (am.1 + 1) a1) (C10_cutTo a1) := by
  unfold X10_cutTo C10_cutTo
  refine sc_pI (t := 2) (i := 0) (by decide) rfl (fun _ => ⟨_, rfl, Nat.le_of_ble_eq_true rfl, celp2⟩) ?_
  exact sc_ret
def C11_end_15   : CM Int32 :=
  cb (C11_refuse (3 : Int32)) fun v1 =>
  cr v1
def C11_end (a1 : Int32) : CM Int32 :=
  if a1 < 0 then ((C11_end_15  )) else (cb (cG 2 0) fun v1 =>
  if a1 ≤ v1 then (cb (C10_cutTo a1) fun _ =>
  cb (C11_answer a1) fun v2 =>
  cr v2) else ((C11_end_15  )))
theorem u_X11_end_15 {am : AM}  : Sc am id (X11_end_15  am.1) (C11_end_15  ) := by
  unfold X11_end_15 C11_end_15
  refine sc_wc (q := (5, 0)) (k := id) (fun _ => rfl) rfl (fun _ => ⟨_, rfl⟩) (u_X11_refuse (3 : Int32)) fun v1 => ?_
  exact sc_ret
theorem u_X11_end {am : AM} (a1 : Int32) : Sc am id (X11_end am.1 a1) (C11_end a1) := by
  unfold X11_end C11_end
  refine sc_ite ?_ ?_
  · exact u_X11_end_15  
  · refine sc_gR (q := (5, 0)) (b := (am.1 + 1)) (fun _ => rfl) rfl (fun _ => ⟨_, rfl, rfl⟩) ?_
    refine sc_gI (t := 2) (i := 0) rfl (fun _ => ⟨_, rfl, rfl⟩) fun v1 => ?_
    refine sc_ite ?_ ?_
    · refine sc_gR (q := (5, 0)) (b := (am.1 + 1)) (fun _ => rfl) rfl (fun _ => ⟨_, rfl, rfl⟩) ?_
      refine sc_wc (q := (6, 0)) (k := id) (fun _ => rfl) rfl (fun _ => ⟨_, rfl⟩) (u_X10_cutTo a1) fun _ => ?_
      refine sc_wc (q := (5, 0)) (k := id) (fun _ => rfl) rfl (fun _ => ⟨_, rfl⟩) (u_X11_answer a1) fun v2 => ?_
      exact sc_ret
    · exact u_X11_end_15  
def C8_clear (this : Nat) : CM Unit :=
  cb (cP 1 this (0 : Int32)) fun _ =>
  cr ()
theorem u_X8_clear {am : AM} (this : Nat) : Sc am id (X8_clear (aRo am this)) (C8_clear this) := by
  unfold X8_clear C8_clear
  refine sc_pI (t := 1) (i := this) (by decide) rfl (fun _ => ⟨_, rfl, Nat.le_of_ble_eq_true rfl, celp1⟩) ?_
  exact sc_ret
def C4_clear  : CM Unit :=
  cb (cE (1, 3)) fun _ =>
  cb (C8_clear 3 ) fun _ =>
  cb (cE (1, 4)) fun _ =>
  cb (C8_clear 4 ) fun _ =>
  cb (cE (1, 5)) fun _ =>
  cb (C8_clear 5 ) fun _ =>
  cb (cE (1, 6)) fun _ =>
  cb (C8_clear 6 ) fun _ =>
  cb (cE (1, 7)) fun _ =>
  cb (C8_clear 7 ) fun _ =>
  cr ()
theorem u_X4_clear {am : AM}  : Sc am id (X4_clear (am.1 + 10)) (C4_clear ) := by
  unfold X4_clear C4_clear
  refine sc_gR (q := (8, 0)) (b := (aRo am 3)) (fun _ => rfl) rfl (fun _ => ⟨_, rfl, rfl⟩) ?_
  refine sc_wcd (q := (1, 3)) (k := id) rfl (fun _ => ⟨_, rfl⟩) (u_X8_clear 3 ) fun _ => ?_
  refine sc_gR (q := (8, 0)) (b := (aRo am 4)) (fun _ => rfl) rfl (fun _ => ⟨_, rfl, rfl⟩) ?_
  refine sc_wcd (q := (1, 4)) (k := id) rfl (fun _ => ⟨_, rfl⟩) (u_X8_clear 4 ) fun _ => ?_
  refine sc_gR (q := (8, 0)) (b := (aRo am 5)) (fun _ => rfl) rfl (fun _ => ⟨_, rfl, rfl⟩) ?_
  refine sc_wcd (q := (1, 5)) (k := id) rfl (fun _ => ⟨_, rfl⟩) (u_X8_clear 5 ) fun _ => ?_
  refine sc_gR (q := (8, 0)) (b := (aRo am 6)) (fun _ => rfl) rfl (fun _ => ⟨_, rfl, rfl⟩) ?_
  refine sc_wcd (q := (1, 6)) (k := id) rfl (fun _ => ⟨_, rfl⟩) (u_X8_clear 6 ) fun _ => ?_
  refine sc_gR (q := (8, 0)) (b := (aRo am 7)) (fun _ => rfl) rfl (fun _ => ⟨_, rfl, rfl⟩) ?_
  refine sc_wcd (q := (1, 7)) (k := id) rfl (fun _ => ⟨_, rfl⟩) (u_X8_clear 7 ) fun _ => ?_
  exact sc_ret
def C5_clear  : CM Unit :=
  cb (cE (1, 8)) fun _ =>
  cb (C8_clear 8 ) fun _ =>
  cb (cE (1, 9)) fun _ =>
  cb (C8_clear 9 ) fun _ =>
  cb (cE (1, 10)) fun _ =>
  cb (C8_clear 10 ) fun _ =>
  cb (cE (1, 11)) fun _ =>
  cb (C8_clear 11 ) fun _ =>
  cr ()
theorem u_X5_clear {am : AM}  : Sc am id (X5_clear (am.1 + 21)) (C5_clear ) := by
  unfold X5_clear C5_clear
  refine sc_gR (q := (9, 0)) (b := (aRo am 8)) (fun _ => rfl) rfl (fun _ => ⟨_, rfl, rfl⟩) ?_
  refine sc_wcd (q := (1, 8)) (k := id) rfl (fun _ => ⟨_, rfl⟩) (u_X8_clear 8 ) fun _ => ?_
  refine sc_gR (q := (9, 0)) (b := (aRo am 9)) (fun _ => rfl) rfl (fun _ => ⟨_, rfl, rfl⟩) ?_
  refine sc_wcd (q := (1, 9)) (k := id) rfl (fun _ => ⟨_, rfl⟩) (u_X8_clear 9 ) fun _ => ?_
  refine sc_gR (q := (9, 0)) (b := (aRo am 10)) (fun _ => rfl) rfl (fun _ => ⟨_, rfl, rfl⟩) ?_
  refine sc_wcd (q := (1, 10)) (k := id) rfl (fun _ => ⟨_, rfl⟩) (u_X8_clear 10 ) fun _ => ?_
  refine sc_gR (q := (9, 0)) (b := (aRo am 11)) (fun _ => rfl) rfl (fun _ => ⟨_, rfl, rfl⟩) ?_
  refine sc_wcd (q := (1, 11)) (k := id) rfl (fun _ => ⟨_, rfl⟩) (u_X8_clear 11 ) fun _ => ?_
  exact sc_ret
def C10_byteAt (a1 : Int32) : CM Int32 :=
  if a1 < 0 then (cr (-1 : Int32)) else (cb (cG 2 0) fun v1 =>
  if v1 ≤ a1 then (cr (-1 : Int32)) else (cb (cN 2 0) fun v2 =>
  if a1 < v2 then (cb (cAb 2 0 a1) fun v3 =>
  cr (v3 &&& (255 : Int32))) else (cr (-1 : Int32))))
theorem u_X10_byteAt {am : AM} (a1 : Int32) : Sc am id (X10_byteAt (am.1 + 1) a1) (C10_byteAt a1) := by
  unfold X10_byteAt C10_byteAt
  refine sc_ite ?_ ?_
  · exact sc_ret
  · refine sc_gI (t := 2) (i := 0) rfl (fun _ => ⟨_, rfl, rfl⟩) fun v1 => ?_
    refine sc_ite ?_ ?_
    · exact sc_ret
    · refine sc_gR (q := (6, 0)) (b := (aAr am 2 0)) (fun _ => rfl) rfl (fun _ => ⟨_, rfl, rfl⟩) ?_
      refine sc_aN (t := 2) (i := 0) fun v2 => ?_
      refine sc_ite ?_ ?_
      · refine sc_gR (q := (6, 0)) (b := (aAr am 2 0)) (fun _ => rfl) rfl (fun _ => ⟨_, rfl, rfl⟩) ?_
        refine sc_aB (t := 2) (i := 0) fun v3 => ?_
        exact sc_ret
      · exact sc_ret
def C10_isLetter (a0 : Int32) : CM Int32 :=
  if a0 < (97 : Int32) then (cr (0 : Int32)) else (if (122 : Int32) < a0 then (cr (0 : Int32)) else (cr (1 : Int32)))
theorem u_X10_isLetter {am : AM} (a0 : Int32) : Sc am id (X10_isLetter a0) (C10_isLetter a0) := by
  unfold X10_isLetter C10_isLetter
  refine sc_ite ?_ ?_
  · exact sc_ret
  · refine sc_ite ?_ ?_
    · exact sc_ret
    · exact sc_ret
def C10_isDigit (a0 : Int32) : CM Int32 :=
  if a0 < (48 : Int32) then (cr (0 : Int32)) else (if (57 : Int32) < a0 then (cr (0 : Int32)) else (cr (1 : Int32)))
theorem u_X10_isDigit {am : AM} (a0 : Int32) : Sc am id (X10_isDigit a0) (C10_isDigit a0) := by
  unfold X10_isDigit C10_isDigit
  refine sc_ite ?_ ?_
  · exact sc_ret
  · refine sc_ite ?_ ?_
    · exact sc_ret
    · exact sc_ret
def C10_widthAt_72 (k32 : Int32 → Int32 → Int32 → CM Int32) (x1 : Int32) (x3 : Int32) (x4 : Int32) : CM Int32 :=
  (k32 x1 x3 (x4 + (1 : Int32)))
def C10_widthAt_32_st  (k32 : Int32 → Int32 → Int32 → CM Int32) (x1 : Int32) (x3 : Int32) (x4 : Int32) : CM Int32 :=
  cb (cG 2 0) fun v1 =>
  if v1 ≤ x4 then (cr (x4 - x1)) else (if x3 = 0 then (cb (C10_byteAt x4) fun v2 =>
  cb (C10_isDigit v2) fun v3 =>
  if v3 = 0 then (cr (x4 - x1)) else ((C10_widthAt_72 k32 x1 x3 x4))) else (cb (C10_byteAt x4) fun v4 =>
  cb (C10_isLetter v4) fun v5 =>
  if v5 = 0 then (cr (x4 - x1)) else ((C10_widthAt_72 k32 x1 x3 x4))))
def C10_widthAt_32  : Nat → Int32 → Int32 → Int32 → CM Int32
  | 0 => fun _ _ _ => cf
  | n + 1 => fun x1 x3 x4 => C10_widthAt_32_st  (C10_widthAt_32  n) x1 x3 x4
def C10_widthAt_22  (x1 : Int32) (x2 : Int32) : CM Int32 :=
  cb (C10_isLetter x2) fun v1 =>
  (C10_widthAt_32  LFU x1 v1 (x1 + (1 : Int32)))
def C10_widthAt (a1 : Int32) : CM Int32 :=
  cb (C10_byteAt a1) fun v1 =>
  cb (C10_isLetter v1) fun v2 =>
  if v2 = 0 then (cb (C10_isDigit v1) fun v3 =>
  if v3 = 0 then (cr (1 : Int32)) else ((C10_widthAt_22  a1 v1))) else ((C10_widthAt_22  a1 v1))
theorem u_X10_widthAt_72 {am : AM} {k32 : Int32 → Int32 → Int32 → CM Int32} (K32 : Nat → Int32 → Int32 → Int32 → MM Int32) (hk32 : ∀ (x1 : Int32) (x3 : Int32) (x4 : Int32), Sc am id (K32 (am.1 + 1) x1 x3 x4) (k32 x1 x3 x4)) (x1 : Int32) (x3 : Int32) (x4 : Int32) : Sc am id (X10_widthAt_72 K32 (am.1 + 1) x1 x3 x4) (C10_widthAt_72 k32 x1 x3 x4) := by
  unfold X10_widthAt_72 C10_widthAt_72
  exact hk32 x1 x3 (x4 + (1 : Int32))
theorem u_X10_widthAt_32_st {am : AM} {k32 : Int32 → Int32 → Int32 → CM Int32} (K32 : Nat → Int32 → Int32 → Int32 → MM Int32) (hk32 : ∀ (x1 : Int32) (x3 : Int32) (x4 : Int32), Sc am id (K32 (am.1 + 1) x1 x3 x4) (k32 x1 x3 x4)) (x1 : Int32) (x3 : Int32) (x4 : Int32) : Sc am id (X10_widthAt_32_st  K32 (am.1 + 1) x1 x3 x4) (C10_widthAt_32_st  k32 x1 x3 x4) := by
  unfold X10_widthAt_32_st C10_widthAt_32_st
  refine sc_gI (t := 2) (i := 0) rfl (fun _ => ⟨_, rfl, rfl⟩) fun v1 => ?_
  refine sc_ite ?_ ?_
  · exact sc_ret
  · refine sc_ite ?_ ?_
    · refine sc_wc (q := (6, 0)) (k := id) (fun _ => rfl) rfl (fun _ => ⟨_, rfl⟩) (u_X10_byteAt x4) fun v2 => ?_
      refine sc_cal (k := id) (u_X10_isDigit v2) fun v3 => ?_
      refine sc_ite ?_ ?_
      · exact sc_ret
      · exact u_X10_widthAt_72 _ hk32 x1 x3 x4
    · refine sc_wc (q := (6, 0)) (k := id) (fun _ => rfl) rfl (fun _ => ⟨_, rfl⟩) (u_X10_byteAt x4) fun v4 => ?_
      refine sc_cal (k := id) (u_X10_isLetter v4) fun v5 => ?_
      refine sc_ite ?_ ?_
      · exact sc_ret
      · exact u_X10_widthAt_72 _ hk32 x1 x3 x4
theorem u_X10_widthAt_32 {am : AM} : ∀ (n : Nat) (x1 : Int32) (x3 : Int32) (x4 : Int32), Sc am id (X10_widthAt_32  n (am.1 + 1) x1 x3 x4) (C10_widthAt_32  n x1 x3 x4) := by
  intro n
  induction n with
  | zero => intro x1 x3 x4; exact sc_mf
  | succ n ih => intro x1 x3 x4; exact u_X10_widthAt_32_st  _ ih x1 x3 x4
theorem u_X10_widthAt_22 {am : AM} (x1 : Int32) (x2 : Int32) : Sc am id (X10_widthAt_22  (am.1 + 1) x1 x2) (C10_widthAt_22  x1 x2) := by
  unfold X10_widthAt_22 C10_widthAt_22
  refine sc_cal (k := id) (u_X10_isLetter x2) fun v1 => ?_
  exact u_X10_widthAt_32  LFU x1 v1 (x1 + (1 : Int32))
theorem u_X10_widthAt {am : AM} (a1 : Int32) : Sc am id (X10_widthAt (am.1 + 1) a1) (C10_widthAt a1) := by
  unfold X10_widthAt C10_widthAt
  refine sc_wc (q := (6, 0)) (k := id) (fun _ => rfl) rfl (fun _ => ⟨_, rfl⟩) (u_X10_byteAt a1) fun v1 => ?_
  refine sc_cal (k := id) (u_X10_isLetter v1) fun v2 => ?_
  refine sc_ite ?_ ?_
  · refine sc_cal (k := id) (u_X10_isDigit v1) fun v3 => ?_
    refine sc_ite ?_ ?_
    · exact sc_ret
    · exact u_X10_widthAt_22  a1 v1
  · exact u_X10_widthAt_22  a1 v1
def C10_isMark (a0 : Int32) : CM Int32 :=
  if a0 = (40 : Int32) then (cr (1 : Int32)) else (if a0 = (41 : Int32) then (cr (1 : Int32)) else (if a0 = (44 : Int32) then (cr (1 : Int32)) else (if a0 = (45 : Int32) then (cr (1 : Int32)) else (if a0 = (43 : Int32) then (cr (1 : Int32)) else (if a0 = (61 : Int32) then (cr (1 : Int32)) else (cr (0 : Int32)))))))
theorem u_X10_isMark {am : AM} (a0 : Int32) : Sc am id (X10_isMark a0) (C10_isMark a0) := by
  unfold X10_isMark C10_isMark
  refine sc_ite ?_ ?_
  · exact sc_ret
  · refine sc_ite ?_ ?_
    · exact sc_ret
    · refine sc_ite ?_ ?_
      · exact sc_ret
      · refine sc_ite ?_ ?_
        · exact sc_ret
        · refine sc_ite ?_ ?_
          · exact sc_ret
          · refine sc_ite ?_ ?_
            · exact sc_ret
            · exact sc_ret
def C10_signOfWord_120  (x2 : Int32) (x5 : Int32) : CM Int32 :=
  cb (cSl 0) fun v1 =>
  cr ((((x2 - (1 : Int32)) * v1) + x5) + (1 : Int32))
def C10_signOfWord_94_st  (k94 : Int32 → Int32 → Int32 → Int32 → Int32 → CM Int32) (x1 : Int32) (x2 : Int32) (x3 : Int32) (x5 : Int32) (x6 : Int32) : CM Int32 :=
  if (x1 + x2) ≤ x6 then ((C10_signOfWord_120  x2 x5)) else (cb (C10_byteAt x6) fun v1 =>
  if v1 = x3 then ((k94 x1 x2 x3 x5 (x6 + (1 : Int32)))) else (cr (-1 : Int32)))
def C10_signOfWord_94  : Nat → Int32 → Int32 → Int32 → Int32 → Int32 → CM Int32
  | 0 => fun _ _ _ _ _ => cf
  | n + 1 => fun x1 x2 x3 x5 x6 => C10_signOfWord_94_st  (C10_signOfWord_94  n) x1 x2 x3 x5 x6
def C10_signOfWord_68  (x1 : Int32) (x2 : Int32) (x3 : Int32) : CM Int32 :=
  cb (cSi 0 (((x3).toUInt32 % 65536).toInt32)) fun v1 =>
  if v1 < 0 then (cr (-1 : Int32)) else (if x2 ≤ (3 : Int32) then ((C10_signOfWord_94  LFU x1 x2 x3 v1 (x1 + (1 : Int32)))) else (cr (-1 : Int32)))
def C10_signOfWord_35  (x1 : Int32) (x2 : Int32) (x3 : Int32) (x4 : Int32) : CM Int32 :=
  if x2 = (3 : Int32) then (if x3 = (99 : Int32) then (if x4 = (104 : Int32) then (cb (C10_byteAt (x1 + (2 : Int32))) fun v1 =>
  if v1 = (105 : Int32) then (cr (70 : Int32)) else ((C10_signOfWord_68  x1 x2 x3))) else ((C10_signOfWord_68  x1 x2 x3))) else ((C10_signOfWord_68  x1 x2 x3))) else ((C10_signOfWord_68  x1 x2 x3))
def C10_signOfWord (a1 : Int32) (a2 : Int32) : CM Int32 :=
  cb (C10_byteAt a1) fun v1 =>
  cb (C10_byteAt (a1 + (1 : Int32))) fun v2 =>
  if a2 = (2 : Int32) then (if v1 = (112 : Int32) then (if v2 = (105 : Int32) then (cr (0 : Int32)) else ((C10_signOfWord_35  a1 a2 v1 v2))) else ((C10_signOfWord_35  a1 a2 v1 v2))) else ((C10_signOfWord_35  a1 a2 v1 v2))
theorem u_X10_signOfWord_120 {am : AM} (x2 : Int32) (x5 : Int32) : Sc am id (X10_signOfWord_120  x2 x5) (C10_signOfWord_120  x2 x5) := by
  unfold X10_signOfWord_120 C10_signOfWord_120
  refine sc_kR (i := 0) rfl ?_
  refine sc_cSl fun v1 => ?_
  exact sc_ret
theorem u_X10_signOfWord_94_st {am : AM} {k94 : Int32 → Int32 → Int32 → Int32 → Int32 → CM Int32} (K94 : Nat → Int32 → Int32 → Int32 → Int32 → Int32 → MM Int32) (hk94 : ∀ (x1 : Int32) (x2 : Int32) (x3 : Int32) (x5 : Int32) (x6 : Int32), Sc am id (K94 (am.1 + 1) x1 x2 x3 x5 x6) (k94 x1 x2 x3 x5 x6)) (x1 : Int32) (x2 : Int32) (x3 : Int32) (x5 : Int32) (x6 : Int32) : Sc am id (X10_signOfWord_94_st  K94 (am.1 + 1) x1 x2 x3 x5 x6) (C10_signOfWord_94_st  k94 x1 x2 x3 x5 x6) := by
  unfold X10_signOfWord_94_st C10_signOfWord_94_st
  refine sc_ite ?_ ?_
  · exact u_X10_signOfWord_120  x2 x5
  · refine sc_wc (q := (6, 0)) (k := id) (fun _ => rfl) rfl (fun _ => ⟨_, rfl⟩) (u_X10_byteAt x6) fun v1 => ?_
    refine sc_ite ?_ ?_
    · exact hk94 x1 x2 x3 x5 (x6 + (1 : Int32))
    · exact sc_ret
theorem u_X10_signOfWord_94 {am : AM} : ∀ (n : Nat) (x1 : Int32) (x2 : Int32) (x3 : Int32) (x5 : Int32) (x6 : Int32), Sc am id (X10_signOfWord_94  n (am.1 + 1) x1 x2 x3 x5 x6) (C10_signOfWord_94  n x1 x2 x3 x5 x6) := by
  intro n
  induction n with
  | zero => intro x1 x2 x3 x5 x6; exact sc_mf
  | succ n ih => intro x1 x2 x3 x5 x6; exact u_X10_signOfWord_94_st  _ ih x1 x2 x3 x5 x6
theorem u_X10_signOfWord_68 {am : AM} (x1 : Int32) (x2 : Int32) (x3 : Int32) : Sc am id (X10_signOfWord_68  (am.1 + 1) x1 x2 x3) (C10_signOfWord_68  x1 x2 x3) := by
  unfold X10_signOfWord_68 C10_signOfWord_68
  refine sc_kR (i := 0) rfl ?_
  refine sc_cSi fun v1 => ?_
  refine sc_ite ?_ ?_
  · exact sc_ret
  · refine sc_ite ?_ ?_
    · exact u_X10_signOfWord_94  LFU x1 x2 x3 v1 (x1 + (1 : Int32))
    · exact sc_ret
theorem u_X10_signOfWord_35 {am : AM} (x1 : Int32) (x2 : Int32) (x3 : Int32) (x4 : Int32) : Sc am id (X10_signOfWord_35  (am.1 + 1) x1 x2 x3 x4) (C10_signOfWord_35  x1 x2 x3 x4) := by
  unfold X10_signOfWord_35 C10_signOfWord_35
  refine sc_ite ?_ ?_
  · refine sc_ite ?_ ?_
    · refine sc_ite ?_ ?_
      · refine sc_wc (q := (6, 0)) (k := id) (fun _ => rfl) rfl (fun _ => ⟨_, rfl⟩) (u_X10_byteAt (x1 + (2 : Int32))) fun v1 => ?_
        refine sc_ite ?_ ?_
        · exact sc_ret
        · exact u_X10_signOfWord_68  x1 x2 x3
      · exact u_X10_signOfWord_68  x1 x2 x3
    · exact u_X10_signOfWord_68  x1 x2 x3
  · exact u_X10_signOfWord_68  x1 x2 x3
theorem u_X10_signOfWord {am : AM} (a1 : Int32) (a2 : Int32) : Sc am id (X10_signOfWord (am.1 + 1) a1 a2) (C10_signOfWord a1 a2) := by
  unfold X10_signOfWord C10_signOfWord
  refine sc_wc (q := (6, 0)) (k := id) (fun _ => rfl) rfl (fun _ => ⟨_, rfl⟩) (u_X10_byteAt a1) fun v1 => ?_
  refine sc_wc (q := (6, 0)) (k := id) (fun _ => rfl) rfl (fun _ => ⟨_, rfl⟩) (u_X10_byteAt (a1 + (1 : Int32))) fun v2 => ?_
  refine sc_ite ?_ ?_
  · refine sc_ite ?_ ?_
    · refine sc_ite ?_ ?_
      · exact sc_ret
      · exact u_X10_signOfWord_35  a1 a2 v1 v2
    · exact u_X10_signOfWord_35  a1 a2 v1 v2
  · exact u_X10_signOfWord_35  a1 a2 v1 v2
def C10_valueOfNumber_5_st  (k5 : Int32 → Int32 → Int32 → Int32 → CM Int32) (x1 : Int32) (x2 : Int32) (x3 : Int32) (x4 : Int32) : CM Int32 :=
  if (x1 + x2) ≤ x4 then (cr x3) else (cb (C10_byteAt x4) fun v1 =>
  (k5 x1 x2 (((x3 * (10 : Int32)) + v1) - (48 : Int32)) (x4 + (1 : Int32))))
def C10_valueOfNumber_5  : Nat → Int32 → Int32 → Int32 → Int32 → CM Int32
  | 0 => fun _ _ _ _ => cf
  | n + 1 => fun x1 x2 x3 x4 => C10_valueOfNumber_5_st  (C10_valueOfNumber_5  n) x1 x2 x3 x4
def C10_valueOfNumber (a1 : Int32) (a2 : Int32) : CM Int32 :=
  (C10_valueOfNumber_5  LFU a1 a2 (0 : Int32) a1)
theorem u_X10_valueOfNumber_5_st {am : AM} {k5 : Int32 → Int32 → Int32 → Int32 → CM Int32} (K5 : Nat → Int32 → Int32 → Int32 → Int32 → MM Int32) (hk5 : ∀ (x1 : Int32) (x2 : Int32) (x3 : Int32) (x4 : Int32), Sc am id (K5 (am.1 + 1) x1 x2 x3 x4) (k5 x1 x2 x3 x4)) (x1 : Int32) (x2 : Int32) (x3 : Int32) (x4 : Int32) : Sc am id (X10_valueOfNumber_5_st  K5 (am.1 + 1) x1 x2 x3 x4) (C10_valueOfNumber_5_st  k5 x1 x2 x3 x4) := by
  unfold X10_valueOfNumber_5_st C10_valueOfNumber_5_st
  refine sc_ite ?_ ?_
  · exact sc_ret
  · refine sc_wc (q := (6, 0)) (k := id) (fun _ => rfl) rfl (fun _ => ⟨_, rfl⟩) (u_X10_byteAt x4) fun v1 => ?_
    exact hk5 x1 x2 (((x3 * (10 : Int32)) + v1) - (48 : Int32)) (x4 + (1 : Int32))
theorem u_X10_valueOfNumber_5 {am : AM} : ∀ (n : Nat) (x1 : Int32) (x2 : Int32) (x3 : Int32) (x4 : Int32), Sc am id (X10_valueOfNumber_5  n (am.1 + 1) x1 x2 x3 x4) (C10_valueOfNumber_5  n x1 x2 x3 x4) := by
  intro n
  induction n with
  | zero => intro x1 x2 x3 x4; exact sc_mf
  | succ n ih => intro x1 x2 x3 x4; exact u_X10_valueOfNumber_5_st  _ ih x1 x2 x3 x4
theorem u_X10_valueOfNumber {am : AM} (a1 : Int32) (a2 : Int32) : Sc am id (X10_valueOfNumber (am.1 + 1) a1 a2) (C10_valueOfNumber a1 a2) := by
  unfold X10_valueOfNumber C10_valueOfNumber
  exact u_X10_valueOfNumber_5  LFU a1 a2 (0 : Int32) a1
def C8_add (this : Nat) (a1 : Int32) : CM Int32 :=
  cb (cG 1 this) fun v1 =>
  cb (cE (1, this)) fun _ =>
  cb (cN 1 this) fun v2 =>
  if v1 < v2 then (cb (cE (1, this)) fun _ =>
  cb (cG 1 this) fun v3 =>
  cb (cP 1 this (v3 + (1 : Int32))) fun _ =>
  cb (cS 1 this v3 a1) fun _ =>
  cr (1 : Int32)) else (cr (0 : Int32))
theorem u_X8_add {am : AM} (this : Nat) (a1 : Int32) : Sc am id (X8_add (aRo am this) a1) (C8_add this a1) := by
  unfold X8_add C8_add
  refine sc_gI (t := 1) (i := this) rfl (fun _ => ⟨_, rfl, rfl⟩) fun v1 => ?_
  refine sc_gRd (q := (1, this)) (b := (aAr am 1 this)) rfl (fun _ => ⟨_, rfl, rfl⟩) ?_
  refine sc_aN (t := 1) (i := this) fun v2 => ?_
  refine sc_ite ?_ ?_
  · refine sc_gRd (q := (1, this)) (b := (aAr am 1 this)) rfl (fun _ => ⟨_, rfl, rfl⟩) ?_
    refine sc_gI (t := 1) (i := this) rfl (fun _ => ⟨_, rfl, rfl⟩) fun v3 => ?_
    refine sc_pI (t := 1) (i := this) (by decide) rfl (fun _ => ⟨_, rfl, Nat.le_of_ble_eq_true rfl, celp1⟩) ?_
    refine sc_sI (t := 1) (i := this) ?_
    exact sc_ret
  · exact sc_ret
def C10_addPiece_77  (x1 : Int32) (x4 : Int32) (x5 : Int32) : CM Unit :=
  cb (cE (1, 0)) fun _ =>
  cb (C8_add 0 x4) fun v1 =>
  cb (cE (1, 1)) fun _ =>
  cb (C8_add 1 x1) fun v2 =>
  cb (cE (1, 2)) fun _ =>
  cb (C8_add 2 x5) fun v3 =>
  cr ()
def C10_addPiece_49  (x1 : Int32) (x5 : Int32) (y0 : Int32) : CM Unit :=
  (C10_addPiece_77  x1 y0 x5)
def C10_addPiece_18  (x1 : Int32) (x2 : Int32) (x3 : Int32) (y0 : Int32) : CM Unit :=
  cb (C10_isLetter x3) fun v1 =>
  if v1 = 0 then (cb (C10_isDigit x3) fun v2 =>
  if v2 = 0 then ((C10_addPiece_77  x1 y0 (0 : Int32))) else (if (3 : Int32) < x2 then ((C10_addPiece_77  x1 y0 (0 : Int32))) else (cb (C10_valueOfNumber x1 x2) fun v3 =>
  (C10_addPiece_77  x1 (2 : Int32) v3)))) else (cb (C10_signOfWord x1 x2) fun v4 =>
  if v4 = (-1 : Int32) then ((C10_addPiece_49  x1 v4 (3 : Int32))) else ((C10_addPiece_49  x1 v4 (1 : Int32))))
def C10_addPiece (a1 : Int32) (a2 : Int32) : CM Unit :=
  cb (C10_byteAt a1) fun v1 =>
  cb (C10_isMark v1) fun v2 =>
  if v2 = 0 then ((C10_addPiece_18  a1 a2 v1 (3 : Int32))) else ((C10_addPiece_18  a1 a2 v1 v1))
theorem u_X10_addPiece_77 {am : AM} (x1 : Int32) (x4 : Int32) (x5 : Int32) : Sc am id (X10_addPiece_77  (am.1 + 1) x1 x4 x5) (C10_addPiece_77  x1 x4 x5) := by
  unfold X10_addPiece_77 C10_addPiece_77
  refine sc_gR (q := (6, 0)) (b := (aRo am 0)) (fun _ => rfl) rfl (fun _ => ⟨_, rfl, rfl⟩) ?_
  refine sc_wcd (q := (1, 0)) (k := id) rfl (fun _ => ⟨_, rfl⟩) (u_X8_add 0 x4) fun v1 => ?_
  refine sc_gR (q := (6, 0)) (b := (aRo am 1)) (fun _ => rfl) rfl (fun _ => ⟨_, rfl, rfl⟩) ?_
  refine sc_wcd (q := (1, 1)) (k := id) rfl (fun _ => ⟨_, rfl⟩) (u_X8_add 1 x1) fun v2 => ?_
  refine sc_gR (q := (6, 0)) (b := (aRo am 2)) (fun _ => rfl) rfl (fun _ => ⟨_, rfl, rfl⟩) ?_
  refine sc_wcd (q := (1, 2)) (k := id) rfl (fun _ => ⟨_, rfl⟩) (u_X8_add 2 x5) fun v3 => ?_
  exact sc_ret
theorem u_X10_addPiece_49 {am : AM} (x1 : Int32) (x5 : Int32) (y0 : Int32) : Sc am id (X10_addPiece_49  (am.1 + 1) x1 x5 y0) (C10_addPiece_49  x1 x5 y0) := by
  unfold X10_addPiece_49 C10_addPiece_49
  exact u_X10_addPiece_77  x1 y0 x5
theorem u_X10_addPiece_18 {am : AM} (x1 : Int32) (x2 : Int32) (x3 : Int32) (y0 : Int32) : Sc am id (X10_addPiece_18  (am.1 + 1) x1 x2 x3 y0) (C10_addPiece_18  x1 x2 x3 y0) := by
  unfold X10_addPiece_18 C10_addPiece_18
  refine sc_cal (k := id) (u_X10_isLetter x3) fun v1 => ?_
  refine sc_ite ?_ ?_
  · refine sc_cal (k := id) (u_X10_isDigit x3) fun v2 => ?_
    refine sc_ite ?_ ?_
    · exact u_X10_addPiece_77  x1 y0 (0 : Int32)
    · refine sc_ite ?_ ?_
      · exact u_X10_addPiece_77  x1 y0 (0 : Int32)
      · refine sc_wc (q := (6, 0)) (k := id) (fun _ => rfl) rfl (fun _ => ⟨_, rfl⟩) (u_X10_valueOfNumber x1 x2) fun v3 => ?_
        exact u_X10_addPiece_77  x1 (2 : Int32) v3
  · refine sc_wc (q := (6, 0)) (k := id) (fun _ => rfl) rfl (fun _ => ⟨_, rfl⟩) (u_X10_signOfWord x1 x2) fun v4 => ?_
    refine sc_ite ?_ ?_
    · exact u_X10_addPiece_49  x1 v4 (3 : Int32)
    · exact u_X10_addPiece_49  x1 v4 (1 : Int32)
theorem u_X10_addPiece {am : AM} (a1 : Int32) (a2 : Int32) : Sc am id (X10_addPiece (am.1 + 1) a1 a2) (C10_addPiece a1 a2) := by
  unfold X10_addPiece C10_addPiece
  refine sc_wc (q := (6, 0)) (k := id) (fun _ => rfl) rfl (fun _ => ⟨_, rfl⟩) (u_X10_byteAt a1) fun v1 => ?_
  refine sc_cal (k := id) (u_X10_isMark v1) fun v2 => ?_
  refine sc_ite ?_ ?_
  · exact u_X10_addPiece_18  a1 a2 v1 (3 : Int32)
  · exact u_X10_addPiece_18  a1 a2 v1 v1
def C10_cutIntoPieces_55 (k25 : Int32 → CM Unit) (x1 : Int32) (x2 : Int32) : CM Unit :=
  (k25 (x2 + (if x1 < (1 : Int32) then (1 : Int32) else x1)))
def C10_cutIntoPieces_66   : CM Unit :=
  cb (cE (1, 0)) fun _ =>
  cb (C8_add 0 (0 : Int32)) fun v1 =>
  cb (cG 2 0) fun v2 =>
  cb (cE (1, 1)) fun _ =>
  cb (C8_add 1 v2) fun v3 =>
  cb (cE (1, 2)) fun _ =>
  cb (C8_add 2 (0 : Int32)) fun v4 =>
  cr ()
def C10_cutIntoPieces_25_st  (k25 : Int32 → CM Unit) (x2 : Int32) : CM Unit :=
  cb (cG 2 0) fun v1 =>
  if v1 ≤ x2 then ((C10_cutIntoPieces_66  )) else (cb (C10_widthAt x2) fun v2 =>
  cb (C10_byteAt x2) fun v3 =>
  if v3 = (32 : Int32) then ((C10_cutIntoPieces_55 k25 v2 x2)) else (cb (C10_addPiece x2 v2) fun _ =>
  (C10_cutIntoPieces_55 k25 v2 x2)))
def C10_cutIntoPieces_25  : Nat → Int32 → CM Unit
  | 0 => fun _ => cf
  | n + 1 => fun x2 => C10_cutIntoPieces_25_st  (C10_cutIntoPieces_25  n) x2
def C10_cutIntoPieces  : CM Unit :=
  cb (cE (1, 0)) fun _ =>
  cb (C8_clear 0 ) fun _ =>
  cb (cE (1, 1)) fun _ =>
  cb (C8_clear 1 ) fun _ =>
  cb (cE (1, 2)) fun _ =>
  cb (C8_clear 2 ) fun _ =>
  (C10_cutIntoPieces_25  LFU (0 : Int32))
theorem u_X10_cutIntoPieces_55 {am : AM} {k25 : Int32 → CM Unit} (K25 : Nat → Int32 → MM Unit) (hk25 : ∀ (x2 : Int32), Sc am id (K25 (am.1 + 1) x2) (k25 x2)) (x1 : Int32) (x2 : Int32) : Sc am id (X10_cutIntoPieces_55 K25 (am.1 + 1) x1 x2) (C10_cutIntoPieces_55 k25 x1 x2) := by
  unfold X10_cutIntoPieces_55 C10_cutIntoPieces_55
  exact hk25 (x2 + (if x1 < (1 : Int32) then (1 : Int32) else x1))
theorem u_X10_cutIntoPieces_66 {am : AM}  : Sc am id (X10_cutIntoPieces_66  (am.1 + 1)) (C10_cutIntoPieces_66  ) := by
  unfold X10_cutIntoPieces_66 C10_cutIntoPieces_66
  refine sc_gR (q := (6, 0)) (b := (aRo am 0)) (fun _ => rfl) rfl (fun _ => ⟨_, rfl, rfl⟩) ?_
  refine sc_wcd (q := (1, 0)) (k := id) rfl (fun _ => ⟨_, rfl⟩) (u_X8_add 0 (0 : Int32)) fun v1 => ?_
  refine sc_gR (q := (6, 0)) (b := (aRo am 1)) (fun _ => rfl) rfl (fun _ => ⟨_, rfl, rfl⟩) ?_
  refine sc_gI (t := 2) (i := 0) rfl (fun _ => ⟨_, rfl, rfl⟩) fun v2 => ?_
  refine sc_wcd (q := (1, 1)) (k := id) rfl (fun _ => ⟨_, rfl⟩) (u_X8_add 1 v2) fun v3 => ?_
  refine sc_gR (q := (6, 0)) (b := (aRo am 2)) (fun _ => rfl) rfl (fun _ => ⟨_, rfl, rfl⟩) ?_
  refine sc_wcd (q := (1, 2)) (k := id) rfl (fun _ => ⟨_, rfl⟩) (u_X8_add 2 (0 : Int32)) fun v4 => ?_
  exact sc_ret
theorem u_X10_cutIntoPieces_25_st {am : AM} {k25 : Int32 → CM Unit} (K25 : Nat → Int32 → MM Unit) (hk25 : ∀ (x2 : Int32), Sc am id (K25 (am.1 + 1) x2) (k25 x2)) (x2 : Int32) : Sc am id (X10_cutIntoPieces_25_st  K25 (am.1 + 1) x2) (C10_cutIntoPieces_25_st  k25 x2) := by
  unfold X10_cutIntoPieces_25_st C10_cutIntoPieces_25_st
  refine sc_gI (t := 2) (i := 0) rfl (fun _ => ⟨_, rfl, rfl⟩) fun v1 => ?_
  refine sc_ite ?_ ?_
  · exact u_X10_cutIntoPieces_66  
  · refine sc_wc (q := (6, 0)) (k := id) (fun _ => rfl) rfl (fun _ => ⟨_, rfl⟩) (u_X10_widthAt x2) fun v2 => ?_
    refine sc_wc (q := (6, 0)) (k := id) (fun _ => rfl) rfl (fun _ => ⟨_, rfl⟩) (u_X10_byteAt x2) fun v3 => ?_
    refine sc_ite ?_ ?_
    · exact u_X10_cutIntoPieces_55 _ hk25 v2 x2
    · refine sc_wc (q := (6, 0)) (k := id) (fun _ => rfl) rfl (fun _ => ⟨_, rfl⟩) (u_X10_addPiece x2 v2) fun _ => ?_
      exact u_X10_cutIntoPieces_55 _ hk25 v2 x2
theorem u_X10_cutIntoPieces_25 {am : AM} : ∀ (n : Nat) (x2 : Int32), Sc am id (X10_cutIntoPieces_25  n (am.1 + 1) x2) (C10_cutIntoPieces_25  n x2) := by
  intro n
  induction n with
  | zero => intro x2; exact sc_mf
  | succ n ih => intro x2; exact u_X10_cutIntoPieces_25_st  _ ih x2
theorem u_X10_cutIntoPieces {am : AM}  : Sc am id (X10_cutIntoPieces (am.1 + 1)) (C10_cutIntoPieces ) := by
  unfold X10_cutIntoPieces C10_cutIntoPieces
  refine sc_gR (q := (6, 0)) (b := (aRo am 0)) (fun _ => rfl) rfl (fun _ => ⟨_, rfl, rfl⟩) ?_
  refine sc_wcd (q := (1, 0)) (k := id) rfl (fun _ => ⟨_, rfl⟩) (u_X8_clear 0 ) fun _ => ?_
  refine sc_gR (q := (6, 0)) (b := (aRo am 1)) (fun _ => rfl) rfl (fun _ => ⟨_, rfl, rfl⟩) ?_
  refine sc_wcd (q := (1, 1)) (k := id) rfl (fun _ => ⟨_, rfl⟩) (u_X8_clear 1 ) fun _ => ?_
  refine sc_gR (q := (6, 0)) (b := (aRo am 2)) (fun _ => rfl) rfl (fun _ => ⟨_, rfl, rfl⟩) ?_
  refine sc_wcd (q := (1, 2)) (k := id) rfl (fun _ => ⟨_, rfl⟩) (u_X8_clear 2 ) fun _ => ?_
  exact u_X10_cutIntoPieces_25  LFU (0 : Int32)
def C7_begin  : CM Unit :=
  cb (cP 3 0 (0 : Int32)) fun _ =>
  cb (cP 5 0 (-9 : Int32)) fun _ =>
  cb (C4_clear ) fun _ =>
  cb (C5_clear ) fun _ =>
  cb (C10_cutIntoPieces ) fun _ =>
  cr ()
theorem u_X7_begin {am : AM}  : Sc am id (X7_begin (am.1 + 9)) (C7_begin ) := by
  unfold X7_begin C7_begin
  refine sc_pI (t := 3) (i := 0) (by decide) rfl (fun _ => ⟨_, rfl, Nat.le_of_ble_eq_true rfl, celp3⟩) ?_
  refine sc_pI (t := 5) (i := 0) (by decide) rfl (fun _ => ⟨_, rfl, Nat.le_of_ble_eq_true rfl, celp5⟩) ?_
  refine sc_gR (q := (7, 0)) (b := (am.1 + 10)) (fun _ => rfl) rfl (fun _ => ⟨_, rfl, rfl⟩) ?_
  refine sc_wc (q := (8, 0)) (k := id) (fun _ => rfl) rfl (fun _ => ⟨_, rfl⟩) (u_X4_clear ) fun _ => ?_
  refine sc_gR (q := (7, 0)) (b := (am.1 + 21)) (fun _ => rfl) rfl (fun _ => ⟨_, rfl, rfl⟩) ?_
  refine sc_wc (q := (9, 0)) (k := id) (fun _ => rfl) rfl (fun _ => ⟨_, rfl⟩) (u_X5_clear ) fun _ => ?_
  refine sc_gR (q := (7, 0)) (b := (am.1 + 1)) (fun _ => rfl) rfl (fun _ => ⟨_, rfl, rfl⟩) ?_
  refine sc_wc (q := (6, 0)) (k := id) (fun _ => rfl) rfl (fun _ => ⟨_, rfl⟩) (u_X10_cutIntoPieces ) fun _ => ?_
  exact sc_ret
def C8_get (this : Nat) (a1 : Int32) : CM Int32 :=
  if a1 < 0 then (cr (-1 : Int32)) else (cb (cG 1 this) fun v1 =>
  if a1 < v1 then (cb (cE (1, this)) fun _ =>
  cb (cA 1 this a1) fun v2 =>
  cr v2) else (cr (-1 : Int32)))
theorem u_X8_get {am : AM} (this : Nat) (a1 : Int32) : Sc am id (X8_get (aRo am this) a1) (C8_get this a1) := by
  unfold X8_get C8_get
  refine sc_ite ?_ ?_
  · exact sc_ret
  · refine sc_gI (t := 1) (i := this) rfl (fun _ => ⟨_, rfl, rfl⟩) fun v1 => ?_
    refine sc_ite ?_ ?_
    · refine sc_gRd (q := (1, this)) (b := (aAr am 1 this)) rfl (fun _ => ⟨_, rfl, rfl⟩) ?_
      refine sc_aI (t := 1) (i := this) fun v2 => ?_
      exact sc_ret
    · exact sc_ret
def C7_takes (a1 : Int32) : CM Int32 :=
  cb (cG 3 0) fun v1 =>
  cb (cE (1, 0)) fun _ =>
  cb (C8_get 0 v1) fun v2 =>
  if v2 = a1 then (cb (cG 3 0) fun v3 =>
  cb (cE (1, 2)) fun _ =>
  cb (C8_get 2 v3) fun v4 =>
  cb (cP 4 0 v4) fun _ =>
  cb (cG 3 0) fun v5 =>
  cb (cP 3 0 (v5 + (1 : Int32))) fun _ =>
  cr (1 : Int32)) else (cb (cG 3 0) fun v6 =>
  cb (cE (1, 1)) fun _ =>
  cb (C8_get 1 v6) fun v7 =>
  cb (cP 5 0 v7) fun _ =>
  cr (0 : Int32))
theorem u_X7_takes {am : AM} (a1 : Int32) : Sc am id (X7_takes (am.1 + 9) a1) (C7_takes a1) := by
  unfold X7_takes C7_takes
  refine sc_gR (q := (7, 0)) (b := (am.1 + 1)) (fun _ => rfl) rfl (fun _ => ⟨_, rfl, rfl⟩) ?_
  refine sc_gR (q := (6, 0)) (b := (aRo am 0)) (fun _ => rfl) rfl (fun _ => ⟨_, rfl, rfl⟩) ?_
  refine sc_gI (t := 3) (i := 0) rfl (fun _ => ⟨_, rfl, rfl⟩) fun v1 => ?_
  refine sc_wcd (q := (1, 0)) (k := id) rfl (fun _ => ⟨_, rfl⟩) (u_X8_get 0 v1) fun v2 => ?_
  refine sc_ite ?_ ?_
  · refine sc_gR (q := (7, 0)) (b := (am.1 + 1)) (fun _ => rfl) rfl (fun _ => ⟨_, rfl, rfl⟩) ?_
    refine sc_gR (q := (6, 0)) (b := (aRo am 2)) (fun _ => rfl) rfl (fun _ => ⟨_, rfl, rfl⟩) ?_
    refine sc_gI (t := 3) (i := 0) rfl (fun _ => ⟨_, rfl, rfl⟩) fun v3 => ?_
    refine sc_wcd (q := (1, 2)) (k := id) rfl (fun _ => ⟨_, rfl⟩) (u_X8_get 2 v3) fun v4 => ?_
    refine sc_pI (t := 4) (i := 0) (by decide) rfl (fun _ => ⟨_, rfl, Nat.le_of_ble_eq_true rfl, celp4⟩) ?_
    refine sc_gI (t := 3) (i := 0) rfl (fun _ => ⟨_, rfl, rfl⟩) fun v5 => ?_
    refine sc_pI (t := 3) (i := 0) (by decide) rfl (fun _ => ⟨_, rfl, Nat.le_of_ble_eq_true rfl, celp3⟩) ?_
    exact sc_ret
  · refine sc_gR (q := (7, 0)) (b := (am.1 + 1)) (fun _ => rfl) rfl (fun _ => ⟨_, rfl, rfl⟩) ?_
    refine sc_gR (q := (6, 0)) (b := (aRo am 1)) (fun _ => rfl) rfl (fun _ => ⟨_, rfl, rfl⟩) ?_
    refine sc_gI (t := 3) (i := 0) rfl (fun _ => ⟨_, rfl, rfl⟩) fun v6 => ?_
    refine sc_wcd (q := (1, 1)) (k := id) rfl (fun _ => ⟨_, rfl⟩) (u_X8_get 1 v6) fun v7 => ?_
    refine sc_pI (t := 5) (i := 0) (by decide) rfl (fun _ => ⟨_, rfl, Nat.le_of_ble_eq_true rfl, celp5⟩) ?_
    exact sc_ret
def C7_skips (a1 : Int32) : CM Int32 :=
  cb (cG 3 0) fun v1 =>
  cb (cE (1, 0)) fun _ =>
  cb (C8_get 0 v1) fun v2 =>
  if v2 = a1 then (cb (cG 3 0) fun v3 =>
  cb (cP 3 0 (v3 + (1 : Int32))) fun _ =>
  cr (1 : Int32)) else (cr (0 : Int32))
theorem u_X7_skips {am : AM} (a1 : Int32) : Sc am id (X7_skips (am.1 + 9) a1) (C7_skips a1) := by
  unfold X7_skips C7_skips
  refine sc_gR (q := (7, 0)) (b := (am.1 + 1)) (fun _ => rfl) rfl (fun _ => ⟨_, rfl, rfl⟩) ?_
  refine sc_gR (q := (6, 0)) (b := (aRo am 0)) (fun _ => rfl) rfl (fun _ => ⟨_, rfl, rfl⟩) ?_
  refine sc_gI (t := 3) (i := 0) rfl (fun _ => ⟨_, rfl, rfl⟩) fun v1 => ?_
  refine sc_wcd (q := (1, 0)) (k := id) rfl (fun _ => ⟨_, rfl⟩) (u_X8_get 0 v1) fun v2 => ?_
  refine sc_ite ?_ ?_
  · refine sc_gI (t := 3) (i := 0) rfl (fun _ => ⟨_, rfl, rfl⟩) fun v3 => ?_
    refine sc_pI (t := 3) (i := 0) (by decide) rfl (fun _ => ⟨_, rfl, Nat.le_of_ble_eq_true rfl, celp3⟩) ?_
    exact sc_ret
  · exact sc_ret
def C7_readsChange_127  (x1 : Int32) (y0 : Int32) (y1 : Nat) : CM Int32 :=
  cb (cE (1, y1)) fun _ =>
  cb (C8_add y1 y0) fun v1 =>
  cb (cE (1, 8)) fun _ =>
  cb (C8_add 8 x1) fun v2 =>
  cr (1 : Int32)
def C7_readsChange_106  (x1 : Int32) : CM Int32 :=
  if x1 = (43 : Int32) then (cb (cG 4 0) fun v1 =>
  (C7_readsChange_127  x1 v1 11)) else ((C7_readsChange_127  x1 (-1 : Int32) 11))
def C7_readsChange_30  (y0 : Int32) : CM Int32 :=
  cb (C7_takes (1 : Int32)) fun v1 =>
  if v1 = 0 then (cr (0 : Int32)) else (cb (cG 4 0) fun v2 =>
  cb (cE (1, 9)) fun _ =>
  cb (C8_add 9 v2) fun v3 =>
  cb (C7_takes (2 : Int32)) fun v4 =>
  if v4 = 0 then (cr (0 : Int32)) else (cb (cG 4 0) fun v5 =>
  cb (cE (1, 10)) fun _ =>
  cb (C8_add 10 v5) fun v6 =>
  if y0 = (43 : Int32) then (cb (C7_takes (43 : Int32)) fun v7 =>
  if v7 = 0 then (cr (0 : Int32)) else (cb (C7_takes (2 : Int32)) fun v8 =>
  if v8 = 0 then (cr (0 : Int32)) else ((C7_readsChange_106  y0)))) else ((C7_readsChange_106  y0))))
def C7_readsChange  : CM Int32 :=
  cb (C7_skips (45 : Int32)) fun v1 =>
  if v1 = 0 then (cb (C7_skips (61 : Int32)) fun v2 =>
  if v2 = 0 then ((C7_readsChange_30  (43 : Int32))) else ((C7_readsChange_30  (61 : Int32)))) else ((C7_readsChange_30  (45 : Int32)))
theorem u_X7_readsChange_127 {am : AM} (x1 : Int32) (y0 : Int32) (y1 : Nat) : Sc am id (X7_readsChange_127  (am.1 + 9) x1 y0 (some (aRo am y1))) (C7_readsChange_127  x1 y0 y1) := by
  unfold X7_readsChange_127 C7_readsChange_127
  refine sc_wcd (q := (1, y1)) (k := id) rfl (fun _ => ⟨_, rfl⟩) (u_X8_add y1 y0) fun v1 => ?_
  refine sc_gR (q := (7, 0)) (b := (am.1 + 21)) (fun _ => rfl) rfl (fun _ => ⟨_, rfl, rfl⟩) ?_
  refine sc_gR (q := (9, 0)) (b := (aRo am 8)) (fun _ => rfl) rfl (fun _ => ⟨_, rfl, rfl⟩) ?_
  refine sc_wcd (q := (1, 8)) (k := id) rfl (fun _ => ⟨_, rfl⟩) (u_X8_add 8 x1) fun v2 => ?_
  exact sc_ret
theorem u_X7_readsChange_106 {am : AM} (x1 : Int32) : Sc am id (X7_readsChange_106  (am.1 + 9) x1) (C7_readsChange_106  x1) := by
  unfold X7_readsChange_106 C7_readsChange_106
  refine sc_gR (q := (7, 0)) (b := (am.1 + 21)) (fun _ => rfl) rfl (fun _ => ⟨_, rfl, rfl⟩) ?_
  refine sc_gR (q := (9, 0)) (b := (aRo am 11)) (fun _ => rfl) rfl (fun _ => ⟨_, rfl, rfl⟩) ?_
  refine sc_ite ?_ ?_
  · refine sc_gI (t := 4) (i := 0) rfl (fun _ => ⟨_, rfl, rfl⟩) fun v1 => ?_
    exact u_X7_readsChange_127  x1 v1 11
  · exact u_X7_readsChange_127  x1 (-1 : Int32) 11
theorem u_X7_readsChange_30 {am : AM} (y0 : Int32) : Sc am id (X7_readsChange_30  (am.1 + 9) y0) (C7_readsChange_30  y0) := by
  unfold X7_readsChange_30 C7_readsChange_30
  refine sc_wc (q := (7, 0)) (k := id) (fun _ => rfl) rfl (fun _ => ⟨_, rfl⟩) (u_X7_takes (1 : Int32)) fun v1 => ?_
  refine sc_ite ?_ ?_
  · exact sc_ret
  · refine sc_gR (q := (7, 0)) (b := (am.1 + 21)) (fun _ => rfl) rfl (fun _ => ⟨_, rfl, rfl⟩) ?_
    refine sc_gR (q := (9, 0)) (b := (aRo am 9)) (fun _ => rfl) rfl (fun _ => ⟨_, rfl, rfl⟩) ?_
    refine sc_gI (t := 4) (i := 0) rfl (fun _ => ⟨_, rfl, rfl⟩) fun v2 => ?_
    refine sc_wcd (q := (1, 9)) (k := id) rfl (fun _ => ⟨_, rfl⟩) (u_X8_add 9 v2) fun v3 => ?_
    refine sc_wc (q := (7, 0)) (k := id) (fun _ => rfl) rfl (fun _ => ⟨_, rfl⟩) (u_X7_takes (2 : Int32)) fun v4 => ?_
    refine sc_ite ?_ ?_
    · exact sc_ret
    · refine sc_gR (q := (7, 0)) (b := (am.1 + 21)) (fun _ => rfl) rfl (fun _ => ⟨_, rfl, rfl⟩) ?_
      refine sc_gR (q := (9, 0)) (b := (aRo am 10)) (fun _ => rfl) rfl (fun _ => ⟨_, rfl, rfl⟩) ?_
      refine sc_gI (t := 4) (i := 0) rfl (fun _ => ⟨_, rfl, rfl⟩) fun v5 => ?_
      refine sc_wcd (q := (1, 10)) (k := id) rfl (fun _ => ⟨_, rfl⟩) (u_X8_add 10 v5) fun v6 => ?_
      refine sc_ite ?_ ?_
      · refine sc_wc (q := (7, 0)) (k := id) (fun _ => rfl) rfl (fun _ => ⟨_, rfl⟩) (u_X7_takes (43 : Int32)) fun v7 => ?_
        refine sc_ite ?_ ?_
        · exact sc_ret
        · refine sc_wc (q := (7, 0)) (k := id) (fun _ => rfl) rfl (fun _ => ⟨_, rfl⟩) (u_X7_takes (2 : Int32)) fun v8 => ?_
          refine sc_ite ?_ ?_
          · exact sc_ret
          · exact u_X7_readsChange_106  y0
      · exact u_X7_readsChange_106  y0
theorem u_X7_readsChange {am : AM}  : Sc am id (X7_readsChange (am.1 + 9)) (C7_readsChange ) := by
  unfold X7_readsChange C7_readsChange
  refine sc_wc (q := (7, 0)) (k := id) (fun _ => rfl) rfl (fun _ => ⟨_, rfl⟩) (u_X7_skips (45 : Int32)) fun v1 => ?_
  refine sc_ite ?_ ?_
  · refine sc_wc (q := (7, 0)) (k := id) (fun _ => rfl) rfl (fun _ => ⟨_, rfl⟩) (u_X7_skips (61 : Int32)) fun v2 => ?_
    refine sc_ite ?_ ?_
    · exact u_X7_readsChange_30  (43 : Int32)
    · exact u_X7_readsChange_30  (61 : Int32)
  · exact u_X7_readsChange_30  (45 : Int32)
def C7_readsChangeList_2_st  (k2 : Int32 → CM Int32) (x1 : Int32) : CM Int32 :=
  if (121 : Int32) ≤ x1 then (cr (0 : Int32)) else (cb (C7_readsChange ) fun v1 =>
  if v1 = 0 then (cr (0 : Int32)) else (cb (C7_skips (44 : Int32)) fun v2 =>
  if v2 = 0 then (cr (1 : Int32)) else ((k2 (x1 + (1 : Int32))))))
def C7_readsChangeList_2  : Nat → Int32 → CM Int32
  | 0 => fun _ => cf
  | n + 1 => fun x1 => C7_readsChangeList_2_st  (C7_readsChangeList_2  n) x1
def C7_readsChangeList  : CM Int32 :=
  (C7_readsChangeList_2  LFU (0 : Int32))
theorem u_X7_readsChangeList_2_st {am : AM} {k2 : Int32 → CM Int32} (K2 : Nat → Int32 → MM Int32) (hk2 : ∀ (x1 : Int32), Sc am id (K2 (am.1 + 9) x1) (k2 x1)) (x1 : Int32) : Sc am id (X7_readsChangeList_2_st  K2 (am.1 + 9) x1) (C7_readsChangeList_2_st  k2 x1) := by
  unfold X7_readsChangeList_2_st C7_readsChangeList_2_st
  refine sc_ite ?_ ?_
  · exact sc_ret
  · refine sc_wc (q := (7, 0)) (k := id) (fun _ => rfl) rfl (fun _ => ⟨_, rfl⟩) (u_X7_readsChange ) fun v1 => ?_
    refine sc_ite ?_ ?_
    · exact sc_ret
    · refine sc_wc (q := (7, 0)) (k := id) (fun _ => rfl) rfl (fun _ => ⟨_, rfl⟩) (u_X7_skips (44 : Int32)) fun v2 => ?_
      refine sc_ite ?_ ?_
      · exact sc_ret
      · exact hk2 (x1 + (1 : Int32))
theorem u_X7_readsChangeList_2 {am : AM} : ∀ (n : Nat) (x1 : Int32), Sc am id (X7_readsChangeList_2  n (am.1 + 9) x1) (C7_readsChangeList_2  n x1) := by
  intro n
  induction n with
  | zero => intro x1; exact sc_mf
  | succ n ih => intro x1; exact u_X7_readsChangeList_2_st  _ ih x1
theorem u_X7_readsChangeList {am : AM}  : Sc am id (X7_readsChangeList (am.1 + 9)) (C7_readsChangeList ) := by
  unfold X7_readsChangeList C7_readsChangeList
  exact u_X7_readsChangeList_2  LFU (0 : Int32)
def C5_amount  : CM Int32 :=
  cb (cG 1 9) fun v1 =>
  cr v1
theorem u_X5_amount {am : AM}  : Sc am id (X5_amount (am.1 + 21)) (C5_amount ) := by
  unfold X5_amount C5_amount
  refine sc_gR (q := (9, 0)) (b := (aRo am 9)) (fun _ => rfl) rfl (fun _ => ⟨_, rfl, rfl⟩) ?_
  refine sc_gI (t := 1) (i := 9) rfl (fun _ => ⟨_, rfl, rfl⟩) fun v1 => ?_
  exact sc_ret
def C7_readsGroup_159   : CM Int32 :=
  cb (C5_amount ) fun v1 =>
  cb (cE (1, 7)) fun _ =>
  cb (C8_add 7 v1) fun v2 =>
  cr (1 : Int32)
def C7_readsGroup_117   : CM Int32 :=
  cb (cG 4 0) fun v1 =>
  cb (cE (1, 6)) fun _ =>
  cb (C8_add 6 v1) fun v2 =>
  cb (C7_skips (40 : Int32)) fun v3 =>
  if v3 = 0 then ((C7_readsGroup_159  )) else (cb (C7_readsChangeList ) fun v4 =>
  if v4 = 0 then (cr (0 : Int32)) else (cb (C7_takes (41 : Int32)) fun v5 =>
  if v5 = 0 then (cr (0 : Int32)) else ((C7_readsGroup_159  ))))
def C7_readsGroup_65  (x1 : Int32) (y0 : Int32) (y1 : Nat) : CM Int32 :=
  cb (cE (1, y1)) fun _ =>
  cb (C8_add y1 y0) fun v1 =>
  cb (C7_takes (2 : Int32)) fun v2 =>
  if v2 = 0 then (cr (0 : Int32)) else (cb (cG 4 0) fun v3 =>
  cb (cE (1, 5)) fun _ =>
  cb (C8_add 5 v3) fun v4 =>
  if x1 = 0 then ((C7_readsGroup_117  )) else (cb (C7_skips (44 : Int32)) fun v5 =>
  if v5 = 0 then ((C7_readsGroup_117  )) else (cb (C7_takes (2 : Int32)) fun v6 =>
  if v6 = 0 then (cr (0 : Int32)) else ((C7_readsGroup_117  )))))
def C7_readsGroup_46  (x1 : Int32) : CM Int32 :=
  if x1 = 0 then ((C7_readsGroup_65  x1 (-1 : Int32) 4)) else (cb (cG 4 0) fun v1 =>
  (C7_readsGroup_65  x1 v1 4))
def C7_readsGroup  : CM Int32 :=
  cb (C7_takes (1 : Int32)) fun v1 =>
  if v1 = 0 then (cr (0 : Int32)) else (cb (cG 4 0) fun v2 =>
  cb (cE (1, 3)) fun _ =>
  cb (C8_add 3 v2) fun v3 =>
  cb (C7_skips (45 : Int32)) fun v4 =>
  if v4 = 0 then ((C7_readsGroup_46  v4)) else (cb (C7_takes (1 : Int32)) fun v5 =>
  if v5 = 0 then (cr (0 : Int32)) else ((C7_readsGroup_46  v4))))
theorem u_X7_readsGroup_159 {am : AM}  : Sc am id (X7_readsGroup_159  (am.1 + 9)) (C7_readsGroup_159  ) := by
  unfold X7_readsGroup_159 C7_readsGroup_159
  refine sc_gR (q := (7, 0)) (b := (am.1 + 10)) (fun _ => rfl) rfl (fun _ => ⟨_, rfl, rfl⟩) ?_
  refine sc_gR (q := (8, 0)) (b := (aRo am 7)) (fun _ => rfl) rfl (fun _ => ⟨_, rfl, rfl⟩) ?_
  refine sc_gR (q := (7, 0)) (b := (am.1 + 21)) (fun _ => rfl) rfl (fun _ => ⟨_, rfl, rfl⟩) ?_
  refine sc_wc (q := (9, 0)) (k := id) (fun _ => rfl) rfl (fun _ => ⟨_, rfl⟩) (u_X5_amount ) fun v1 => ?_
  refine sc_wcd (q := (1, 7)) (k := id) rfl (fun _ => ⟨_, rfl⟩) (u_X8_add 7 v1) fun v2 => ?_
  exact sc_ret
theorem u_X7_readsGroup_117 {am : AM}  : Sc am id (X7_readsGroup_117  (am.1 + 9)) (C7_readsGroup_117  ) := by
  unfold X7_readsGroup_117 C7_readsGroup_117
  refine sc_gR (q := (7, 0)) (b := (am.1 + 10)) (fun _ => rfl) rfl (fun _ => ⟨_, rfl, rfl⟩) ?_
  refine sc_gR (q := (8, 0)) (b := (aRo am 6)) (fun _ => rfl) rfl (fun _ => ⟨_, rfl, rfl⟩) ?_
  refine sc_gI (t := 4) (i := 0) rfl (fun _ => ⟨_, rfl, rfl⟩) fun v1 => ?_
  refine sc_wcd (q := (1, 6)) (k := id) rfl (fun _ => ⟨_, rfl⟩) (u_X8_add 6 v1) fun v2 => ?_
  refine sc_wc (q := (7, 0)) (k := id) (fun _ => rfl) rfl (fun _ => ⟨_, rfl⟩) (u_X7_skips (40 : Int32)) fun v3 => ?_
  refine sc_ite ?_ ?_
  · exact u_X7_readsGroup_159  
  · refine sc_wc (q := (7, 0)) (k := id) (fun _ => rfl) rfl (fun _ => ⟨_, rfl⟩) (u_X7_readsChangeList ) fun v4 => ?_
    refine sc_ite ?_ ?_
    · exact sc_ret
    · refine sc_wc (q := (7, 0)) (k := id) (fun _ => rfl) rfl (fun _ => ⟨_, rfl⟩) (u_X7_takes (41 : Int32)) fun v5 => ?_
      refine sc_ite ?_ ?_
      · exact sc_ret
      · exact u_X7_readsGroup_159  
theorem u_X7_readsGroup_65 {am : AM} (x1 : Int32) (y0 : Int32) (y1 : Nat) : Sc am id (X7_readsGroup_65  (am.1 + 9) x1 y0 (some (aRo am y1))) (C7_readsGroup_65  x1 y0 y1) := by
  unfold X7_readsGroup_65 C7_readsGroup_65
  refine sc_wcd (q := (1, y1)) (k := id) rfl (fun _ => ⟨_, rfl⟩) (u_X8_add y1 y0) fun v1 => ?_
  refine sc_wc (q := (7, 0)) (k := id) (fun _ => rfl) rfl (fun _ => ⟨_, rfl⟩) (u_X7_takes (2 : Int32)) fun v2 => ?_
  refine sc_ite ?_ ?_
  · exact sc_ret
  · refine sc_gR (q := (7, 0)) (b := (am.1 + 10)) (fun _ => rfl) rfl (fun _ => ⟨_, rfl, rfl⟩) ?_
    refine sc_gR (q := (8, 0)) (b := (aRo am 5)) (fun _ => rfl) rfl (fun _ => ⟨_, rfl, rfl⟩) ?_
    refine sc_gI (t := 4) (i := 0) rfl (fun _ => ⟨_, rfl, rfl⟩) fun v3 => ?_
    refine sc_wcd (q := (1, 5)) (k := id) rfl (fun _ => ⟨_, rfl⟩) (u_X8_add 5 v3) fun v4 => ?_
    refine sc_ite ?_ ?_
    · exact u_X7_readsGroup_117  
    · refine sc_wc (q := (7, 0)) (k := id) (fun _ => rfl) rfl (fun _ => ⟨_, rfl⟩) (u_X7_skips (44 : Int32)) fun v5 => ?_
      refine sc_ite ?_ ?_
      · exact u_X7_readsGroup_117  
      · refine sc_wc (q := (7, 0)) (k := id) (fun _ => rfl) rfl (fun _ => ⟨_, rfl⟩) (u_X7_takes (2 : Int32)) fun v6 => ?_
        refine sc_ite ?_ ?_
        · exact sc_ret
        · exact u_X7_readsGroup_117  
theorem u_X7_readsGroup_46 {am : AM} (x1 : Int32) : Sc am id (X7_readsGroup_46  (am.1 + 9) x1) (C7_readsGroup_46  x1) := by
  unfold X7_readsGroup_46 C7_readsGroup_46
  refine sc_gR (q := (7, 0)) (b := (am.1 + 10)) (fun _ => rfl) rfl (fun _ => ⟨_, rfl, rfl⟩) ?_
  refine sc_gR (q := (8, 0)) (b := (aRo am 4)) (fun _ => rfl) rfl (fun _ => ⟨_, rfl, rfl⟩) ?_
  refine sc_ite ?_ ?_
  · exact u_X7_readsGroup_65  x1 (-1 : Int32) 4
  · refine sc_gI (t := 4) (i := 0) rfl (fun _ => ⟨_, rfl, rfl⟩) fun v1 => ?_
    exact u_X7_readsGroup_65  x1 v1 4
theorem u_X7_readsGroup {am : AM}  : Sc am id (X7_readsGroup (am.1 + 9)) (C7_readsGroup ) := by
  unfold X7_readsGroup C7_readsGroup
  refine sc_wc (q := (7, 0)) (k := id) (fun _ => rfl) rfl (fun _ => ⟨_, rfl⟩) (u_X7_takes (1 : Int32)) fun v1 => ?_
  refine sc_ite ?_ ?_
  · exact sc_ret
  · refine sc_gR (q := (7, 0)) (b := (am.1 + 10)) (fun _ => rfl) rfl (fun _ => ⟨_, rfl, rfl⟩) ?_
    refine sc_gR (q := (8, 0)) (b := (aRo am 3)) (fun _ => rfl) rfl (fun _ => ⟨_, rfl, rfl⟩) ?_
    refine sc_gI (t := 4) (i := 0) rfl (fun _ => ⟨_, rfl, rfl⟩) fun v2 => ?_
    refine sc_wcd (q := (1, 3)) (k := id) rfl (fun _ => ⟨_, rfl⟩) (u_X8_add 3 v2) fun v3 => ?_
    refine sc_wc (q := (7, 0)) (k := id) (fun _ => rfl) rfl (fun _ => ⟨_, rfl⟩) (u_X7_skips (45 : Int32)) fun v4 => ?_
    refine sc_ite ?_ ?_
    · exact u_X7_readsGroup_46  v4
    · refine sc_wc (q := (7, 0)) (k := id) (fun _ => rfl) rfl (fun _ => ⟨_, rfl⟩) (u_X7_takes (1 : Int32)) fun v5 => ?_
      refine sc_ite ?_ ?_
      · exact sc_ret
      · exact u_X7_readsGroup_46  v4
def C7_readsFormula_6_st  (k6 : Int32 → CM Int32) (x1 : Int32) : CM Int32 :=
  if (121 : Int32) ≤ x1 then (cr (0 : Int32)) else (cb (C7_readsGroup ) fun v1 =>
  if v1 = 0 then (cr (0 : Int32)) else (cb (C7_skips (0 : Int32)) fun v2 =>
  if v2 = 0 then ((k6 (x1 + (1 : Int32)))) else (cr (1 : Int32))))
def C7_readsFormula_6  : Nat → Int32 → CM Int32
  | 0 => fun _ => cf
  | n + 1 => fun x1 => C7_readsFormula_6_st  (C7_readsFormula_6  n) x1
def C7_readsFormula  : CM Int32 :=
  cb (C7_begin ) fun _ =>
  (C7_readsFormula_6  LFU (0 : Int32))
theorem u_X7_readsFormula_6_st {am : AM} {k6 : Int32 → CM Int32} (K6 : Nat → Int32 → MM Int32) (hk6 : ∀ (x1 : Int32), Sc am id (K6 (am.1 + 9) x1) (k6 x1)) (x1 : Int32) : Sc am id (X7_readsFormula_6_st  K6 (am.1 + 9) x1) (C7_readsFormula_6_st  k6 x1) := by
  unfold X7_readsFormula_6_st C7_readsFormula_6_st
  refine sc_ite ?_ ?_
  · exact sc_ret
  · refine sc_wc (q := (7, 0)) (k := id) (fun _ => rfl) rfl (fun _ => ⟨_, rfl⟩) (u_X7_readsGroup ) fun v1 => ?_
    refine sc_ite ?_ ?_
    · exact sc_ret
    · refine sc_wc (q := (7, 0)) (k := id) (fun _ => rfl) rfl (fun _ => ⟨_, rfl⟩) (u_X7_skips (0 : Int32)) fun v2 => ?_
      refine sc_ite ?_ ?_
      · exact hk6 (x1 + (1 : Int32))
      · exact sc_ret
theorem u_X7_readsFormula_6 {am : AM} : ∀ (n : Nat) (x1 : Int32), Sc am id (X7_readsFormula_6  n (am.1 + 9) x1) (C7_readsFormula_6  n x1) := by
  intro n
  induction n with
  | zero => intro x1; exact sc_mf
  | succ n ih => intro x1; exact u_X7_readsFormula_6_st  _ ih x1
theorem u_X7_readsFormula {am : AM}  : Sc am id (X7_readsFormula (am.1 + 9)) (C7_readsFormula ) := by
  unfold X7_readsFormula C7_readsFormula
  refine sc_wc (q := (7, 0)) (k := id) (fun _ => rfl) rfl (fun _ => ⟨_, rfl⟩) (u_X7_begin ) fun _ => ?_
  exact u_X7_readsFormula_6  LFU (0 : Int32)
def C6_clear (this : Nat) : CM Unit :=
  cb (cE (2, this)) fun _ =>
  cb (cFi 4 this false (0 : Int32)) fun _ =>
  cb (cE (2, this)) fun _ =>
  cb (cFi 5 this true (0 : Int32)) fun _ =>
  cb (cE (2, this)) fun _ =>
  cb (cFi 6 this true (0 : Int32)) fun _ =>
  cb (cP 6 this (0 : Int32)) fun _ =>
  cb (cP 7 this (-1 : Int32)) fun _ =>
  cr ()
theorem u_X6_clear {am : AM} (this : Nat) : Sc am id (X6_clear (aPl am this)) (C6_clear this) := by
  unfold X6_clear C6_clear
  refine sc_gRd (q := (2, this)) (b := (aAr am 4 this)) rfl (fun _ => ⟨_, rfl, rfl⟩) ?_
  refine sc_fiI (t := 4) (i := this) ?_
  refine sc_gRd (q := (2, this)) (b := (aAr am 5 this)) rfl (fun _ => ⟨_, rfl, rfl⟩) ?_
  refine sc_fiB (t := 5) (i := this) ?_
  refine sc_gRd (q := (2, this)) (b := (aAr am 6 this)) rfl (fun _ => ⟨_, rfl, rfl⟩) ?_
  refine sc_fiB (t := 6) (i := this) ?_
  refine sc_pI (t := 6) (i := this) (by decide) rfl (fun _ => ⟨_, rfl, Nat.le_of_ble_eq_true rfl, celp6⟩) ?_
  refine sc_pI (t := 7) (i := this) (by decide) rfl (fun _ => ⟨_, rfl, Nat.le_of_ble_eq_true rfl, celp7⟩) ?_
  exact sc_ret
def C6_sizeOf (this : Nat) (a1 : Int32) : CM Int32 :=
  if a1 < 0 then (cr (0 : Int32)) else (cb (cE (2, this)) fun _ =>
  cb (cN 4 this) fun v1 =>
  if a1 < v1 then (cb (cE (2, this)) fun _ =>
  cb (cA 4 this a1) fun v2 =>
  cr v2) else (cr (0 : Int32)))
theorem u_X6_sizeOf {am : AM} (this : Nat) (a1 : Int32) : Sc am id (X6_sizeOf (aPl am this) a1) (C6_sizeOf this a1) := by
  unfold X6_sizeOf C6_sizeOf
  refine sc_ite ?_ ?_
  · exact sc_ret
  · refine sc_gRd (q := (2, this)) (b := (aAr am 4 this)) rfl (fun _ => ⟨_, rfl, rfl⟩) ?_
    refine sc_aN (t := 4) (i := this) fun v1 => ?_
    refine sc_ite ?_ ?_
    · refine sc_gRd (q := (2, this)) (b := (aAr am 4 this)) rfl (fun _ => ⟨_, rfl, rfl⟩) ?_
      refine sc_aI (t := 4) (i := this) fun v2 => ?_
      exact sc_ret
    · exact sc_ret
def C3_isSize (a0 : Int32) : CM Int32 :=
  if a0 = (1 : Int32) then (cr (1 : Int32)) else (if a0 < (2 : Int32) then (cr (0 : Int32)) else (if (12 : Int32) < a0 then (cr (0 : Int32)) else (cb (crI a0 (2 : Int32)) fun v1 =>
  if v1 = 0 then (cr (1 : Int32)) else (cr (0 : Int32)))))
theorem u_X3_isSize {am : AM} (a0 : Int32) : Sc am id (X3_isSize a0) (C3_isSize a0) := by
  unfold X3_isSize C3_isSize
  refine sc_ite ?_ ?_
  · exact sc_ret
  · refine sc_ite ?_ ?_
    · exact sc_ret
    · refine sc_ite ?_ ?_
      · exact sc_ret
      · refine sc_rI fun v1 => ?_
        refine sc_ite ?_ ?_
        · exact sc_ret
        · exact sc_ret
def C6_addGathering (this : Nat) (a1 : Int32) (a2 : Int32) : CM Unit :=
  cb (cG 6 this) fun v1 =>
  cb (cE (2, this)) fun _ =>
  cb (cN 3 this) fun v2 =>
  if v2 ≤ v1 then (cr ()) else (if a1 < 0 then (cr ()) else (cb (cE (2, this)) fun _ =>
  cb (cN 4 this) fun v3 =>
  if a1 < v3 then (cb (cE (2, this)) fun _ =>
  cb (cG 6 this) fun v4 =>
  cb (cP 6 this (v4 + (1 : Int32))) fun _ =>
  cb (cS 3 this v4 a1) fun _ =>
  cb (cE (2, this)) fun _ =>
  cb (cS 4 this a1 a2) fun _ =>
  if a1 = (70 : Int32) then (cr ()) else (cb (cP 7 this a1) fun _ =>
  cr ())) else (cr ())))
theorem u_X6_addGathering {am : AM} (this : Nat) (a1 : Int32) (a2 : Int32) : Sc am id (X6_addGathering (aPl am this) a1 a2) (C6_addGathering this a1 a2) := by
  unfold X6_addGathering C6_addGathering
  refine sc_gI (t := 6) (i := this) rfl (fun _ => ⟨_, rfl, rfl⟩) fun v1 => ?_
  refine sc_gRd (q := (2, this)) (b := (aAr am 3 this)) rfl (fun _ => ⟨_, rfl, rfl⟩) ?_
  refine sc_aN (t := 3) (i := this) fun v2 => ?_
  refine sc_ite ?_ ?_
  · exact sc_ret
  · refine sc_ite ?_ ?_
    · exact sc_ret
    · refine sc_gRd (q := (2, this)) (b := (aAr am 4 this)) rfl (fun _ => ⟨_, rfl, rfl⟩) ?_
      refine sc_aN (t := 4) (i := this) fun v3 => ?_
      refine sc_ite ?_ ?_
      · refine sc_gRd (q := (2, this)) (b := (aAr am 3 this)) rfl (fun _ => ⟨_, rfl, rfl⟩) ?_
        refine sc_gI (t := 6) (i := this) rfl (fun _ => ⟨_, rfl, rfl⟩) fun v4 => ?_
        refine sc_pI (t := 6) (i := this) (by decide) rfl (fun _ => ⟨_, rfl, Nat.le_of_ble_eq_true rfl, celp6⟩) ?_
        refine sc_sI (t := 3) (i := this) ?_
        refine sc_gRd (q := (2, this)) (b := (aAr am 4 this)) rfl (fun _ => ⟨_, rfl, rfl⟩) ?_
        refine sc_sI (t := 4) (i := this) ?_
        refine sc_ite ?_ ?_
        · exact sc_ret
        · refine sc_pI (t := 7) (i := this) (by decide) rfl (fun _ => ⟨_, rfl, Nat.le_of_ble_eq_true rfl, celp7⟩) ?_
          exact sc_ret
      · exact sc_ret
def C6_addGroup_27 (k3 : Nat → Int32 → Int32 → Int32 → Int32 → Int32 → CM Unit) (this : Nat) (x1 : Int32) (x2 : Int32) (x3 : Int32) (x4 : Int32) (x5 : Int32) (y0 : Int32) (y1 : Int32) : CM Unit :=
  cb (cE (2, this)) fun _ =>
  cb (C6_addGathering this y1 y0) fun _ =>
  (k3 this x1 x2 x3 x4 (x5 + (1 : Int32)))
def C6_addGroup_3_st  (k3 : Nat → Int32 → Int32 → Int32 → Int32 → Int32 → CM Unit) (this : Nat) (x1 : Int32) (x2 : Int32) (x3 : Int32) (x4 : Int32) (x5 : Int32) : CM Unit :=
  if x2 < x5 then (cr ()) else (cb (crI (x5 - x1) (2 : Int32)) fun v1 =>
  if v1 = 0 then ((C6_addGroup_27 k3 this x1 x2 x3 x4 x5 x3 x5)) else ((C6_addGroup_27 k3 this x1 x2 x3 x4 x5 x4 x5)))
def C6_addGroup_3  : Nat → Nat → Int32 → Int32 → Int32 → Int32 → Int32 → CM Unit
  | 0 => fun _ _ _ _ _ _ => cf
  | n + 1 => fun this x1 x2 x3 x4 x5 => C6_addGroup_3_st  (C6_addGroup_3  n) this x1 x2 x3 x4 x5
def C6_addGroup (this : Nat) (a1 : Int32) (a2 : Int32) (a3 : Int32) (a4 : Int32) : CM Unit :=
  (C6_addGroup_3  LFU this a1 a2 a3 a4 a1)
theorem u_X6_addGroup_27 {am : AM} {k3 : Nat → Int32 → Int32 → Int32 → Int32 → Int32 → CM Unit} (K3 : Nat → Int32 → Int32 → Int32 → Int32 → Int32 → MM Unit) (hk3 : ∀ (this : Nat) (x1 : Int32) (x2 : Int32) (x3 : Int32) (x4 : Int32) (x5 : Int32), Sc am id (K3 (aPl am this) x1 x2 x3 x4 x5) (k3 this x1 x2 x3 x4 x5)) (this : Nat) (x1 : Int32) (x2 : Int32) (x3 : Int32) (x4 : Int32) (x5 : Int32) (y0 : Int32) (y1 : Int32) : Sc am id (X6_addGroup_27 K3 (aPl am this) x1 x2 x3 x4 x5 y0 y1) (C6_addGroup_27 k3 this x1 x2 x3 x4 x5 y0 y1) := by
  unfold X6_addGroup_27 C6_addGroup_27
  refine sc_wcd (q := (2, this)) (k := id) rfl (fun _ => ⟨_, rfl⟩) (u_X6_addGathering this y1 y0) fun _ => ?_
  exact hk3 this x1 x2 x3 x4 (x5 + (1 : Int32))
theorem u_X6_addGroup_3_st {am : AM} {k3 : Nat → Int32 → Int32 → Int32 → Int32 → Int32 → CM Unit} (K3 : Nat → Int32 → Int32 → Int32 → Int32 → Int32 → MM Unit) (hk3 : ∀ (this : Nat) (x1 : Int32) (x2 : Int32) (x3 : Int32) (x4 : Int32) (x5 : Int32), Sc am id (K3 (aPl am this) x1 x2 x3 x4 x5) (k3 this x1 x2 x3 x4 x5)) (this : Nat) (x1 : Int32) (x2 : Int32) (x3 : Int32) (x4 : Int32) (x5 : Int32) : Sc am id (X6_addGroup_3_st  K3 (aPl am this) x1 x2 x3 x4 x5) (C6_addGroup_3_st  k3 this x1 x2 x3 x4 x5) := by
  unfold X6_addGroup_3_st C6_addGroup_3_st
  refine sc_ite ?_ ?_
  · exact sc_ret
  · refine sc_rI fun v1 => ?_
    refine sc_ite ?_ ?_
    · exact u_X6_addGroup_27 _ hk3 this x1 x2 x3 x4 x5 x3 x5
    · exact u_X6_addGroup_27 _ hk3 this x1 x2 x3 x4 x5 x4 x5
theorem u_X6_addGroup_3 {am : AM} : ∀ (n : Nat) (this : Nat) (x1 : Int32) (x2 : Int32) (x3 : Int32) (x4 : Int32) (x5 : Int32), Sc am id (X6_addGroup_3  n (aPl am this) x1 x2 x3 x4 x5) (C6_addGroup_3  n this x1 x2 x3 x4 x5) := by
  intro n
  induction n with
  | zero => intro this x1 x2 x3 x4 x5; exact sc_mf
  | succ n ih => intro this x1 x2 x3 x4 x5; exact u_X6_addGroup_3_st  _ ih this x1 x2 x3 x4 x5
theorem u_X6_addGroup {am : AM} (this : Nat) (a1 : Int32) (a2 : Int32) (a3 : Int32) (a4 : Int32) : Sc am id (X6_addGroup (aPl am this) a1 a2 a3 a4) (C6_addGroup this a1 a2 a3 a4) := by
  unfold X6_addGroup C6_addGroup
  exact u_X6_addGroup_3  LFU this a1 a2 a3 a4 a1
def C3_ofSigns_3_st  (k3 : Int32 → Int32 → Int32 → Int32 → CM Int32) (x2 : Int32) (x3 : Int32) (x4 : Int32) (x5 : Int32) : CM Int32 :=
  if x2 ≤ x5 then (cr (1 : Int32)) else (cb (cE (1, 9)) fun _ =>
  cb (C8_get 9 x5) fun v1 =>
  if v1 < x3 then (cr (0 : Int32)) else (cb (cE (1, 9)) fun _ =>
  cb (C8_get 9 x5) fun v2 =>
  if v2 ≤ x4 then ((k3 x2 x3 x4 (x5 + (1 : Int32)))) else (cr (0 : Int32))))
def C3_ofSigns_3  : Nat → Int32 → Int32 → Int32 → Int32 → CM Int32
  | 0 => fun _ _ _ _ => cf
  | n + 1 => fun x2 x3 x4 x5 => C3_ofSigns_3_st  (C3_ofSigns_3  n) x2 x3 x4 x5
def C3_ofSigns (a1 : Int32) (a2 : Int32) (a3 : Int32) (a4 : Int32) : CM Int32 :=
  (C3_ofSigns_3  LFU a2 a3 a4 a1)
theorem u_X3_ofSigns_3_st {am : AM} {k3 : Int32 → Int32 → Int32 → Int32 → CM Int32} (K3 : Option Nat → Int32 → Int32 → Int32 → Int32 → MM Int32) (hk3 : ∀ (x2 : Int32) (x3 : Int32) (x4 : Int32) (x5 : Int32), Sc am id (K3 (some (am.1 + 21)) x2 x3 x4 x5) (k3 x2 x3 x4 x5)) (x2 : Int32) (x3 : Int32) (x4 : Int32) (x5 : Int32) : Sc am id (X3_ofSigns_3_st  K3 (some (am.1 + 21)) x2 x3 x4 x5) (C3_ofSigns_3_st  k3 x2 x3 x4 x5) := by
  unfold X3_ofSigns_3_st C3_ofSigns_3_st
  refine sc_ite ?_ ?_
  · exact sc_ret
  · refine sc_gR (q := (9, 0)) (b := (aRo am 9)) (fun _ => rfl) rfl (fun _ => ⟨_, rfl, rfl⟩) ?_
    refine sc_wcd (q := (1, 9)) (k := id) rfl (fun _ => ⟨_, rfl⟩) (u_X8_get 9 x5) fun v1 => ?_
    refine sc_ite ?_ ?_
    · exact sc_ret
    · refine sc_gR (q := (9, 0)) (b := (aRo am 9)) (fun _ => rfl) rfl (fun _ => ⟨_, rfl, rfl⟩) ?_
      refine sc_wcd (q := (1, 9)) (k := id) rfl (fun _ => ⟨_, rfl⟩) (u_X8_get 9 x5) fun v2 => ?_
      refine sc_ite ?_ ?_
      · exact hk3 x2 x3 x4 (x5 + (1 : Int32))
      · exact sc_ret
theorem u_X3_ofSigns_3 {am : AM} : ∀ (n : Nat) (x2 : Int32) (x3 : Int32) (x4 : Int32) (x5 : Int32), Sc am id (X3_ofSigns_3  n (some (am.1 + 21)) x2 x3 x4 x5) (C3_ofSigns_3  n x2 x3 x4 x5) := by
  intro n
  induction n with
  | zero => intro x2 x3 x4 x5; exact sc_mf
  | succ n ih => intro x2 x3 x4 x5; exact u_X3_ofSigns_3_st  _ ih x2 x3 x4 x5
theorem u_X3_ofSigns {am : AM} (a1 : Int32) (a2 : Int32) (a3 : Int32) (a4 : Int32) : Sc am id (X3_ofSigns (some (am.1 + 21)) a1 a2 a3 a4) (C3_ofSigns a1 a2 a3 a4) := by
  unfold X3_ofSigns C3_ofSigns
  exact u_X3_ofSigns_3  LFU a2 a3 a4 a1
def C6_slotOf (this : Nat) (a1 : Int32) (a2 : Int32) : CM Int32 :=
  if a2 < (1 : Int32) then (cr (-1 : Int32)) else (cb (cE (2, this)) fun _ =>
  cb (C6_sizeOf this a1) fun v1 =>
  if a2 ≤ v1 then (cr (((a1 * (12 : Int32)) + a2) - (1 : Int32))) else (cr (-1 : Int32)))
theorem u_X6_slotOf {am : AM} (this : Nat) (a1 : Int32) (a2 : Int32) : Sc am id (X6_slotOf (aPl am this) a1 a2) (C6_slotOf this a1 a2) := by
  unfold X6_slotOf C6_slotOf
  refine sc_ite ?_ ?_
  · exact sc_ret
  · refine sc_wcd (q := (2, this)) (k := id) rfl (fun _ => ⟨_, rfl⟩) (u_X6_sizeOf this a1) fun v1 => ?_
    refine sc_ite ?_ ?_
    · exact sc_ret
    · exact sc_ret
def C6_takesChange_30  (x1 : Int32) (x2 : Int32) (x3 : Int32) (y0 : Nat × Nat) : CM Int32 :=
  cb (cAb y0.1 y0.2 x1) fun v1 =>
  if v1 = 0 then (if x2 = (43 : Int32) then (cb (cSb y0.1 y0.2 x1 ((x3).toInt8.toInt32)) fun _ =>
  cr (1 : Int32)) else (cb (cSb y0.1 y0.2 x1 ((x2).toInt8.toInt32)) fun _ =>
  cr (1 : Int32))) else (cr (0 : Int32))
def C6_takesChange (this : Nat) (a1 : Int32) (a2 : Int32) (a3 : Int32) : CM Int32 :=
  if a1 < 0 then (cr (0 : Int32)) else (if a1 < (852 : Int32) then (if a2 = (43 : Int32) then (cb (cE (2, this)) fun _ =>
  (C6_takesChange_30  a1 a2 a3 (6, this))) else (cb (cE (2, this)) fun _ =>
  (C6_takesChange_30  a1 a2 a3 (5, this)))) else (cr (0 : Int32)))
theorem u_X6_takesChange_30 {am : AM} (x1 : Int32) (x2 : Int32) (x3 : Int32) (y0 : Nat × Nat) : Sc am id (X6_takesChange_30  x1 x2 x3 (some (aAr am y0.1 y0.2))) (C6_takesChange_30  x1 x2 x3 y0) := by
  unfold X6_takesChange_30 C6_takesChange_30
  refine sc_aB (t := y0.1) (i := y0.2) fun v1 => ?_
  refine sc_ite ?_ ?_
  · refine sc_ite ?_ ?_
    · refine sc_sB (t := y0.1) (i := y0.2) ?_
      exact sc_ret
    · refine sc_sB (t := y0.1) (i := y0.2) ?_
      exact sc_ret
  · exact sc_ret
theorem u_X6_takesChange {am : AM} (this : Nat) (a1 : Int32) (a2 : Int32) (a3 : Int32) : Sc am id (X6_takesChange (aPl am this) a1 a2 a3) (C6_takesChange this a1 a2 a3) := by
  unfold X6_takesChange C6_takesChange
  refine sc_ite ?_ ?_
  · exact sc_ret
  · refine sc_ite ?_ ?_
    · refine sc_ite ?_ ?_
      · refine sc_gRd (q := (2, this)) (b := (aAr am 6 this)) rfl (fun _ => ⟨_, rfl, rfl⟩) ?_
        exact u_X6_takesChange_30  a1 a2 a3 (6, this)
      · refine sc_gRd (q := (2, this)) (b := (aAr am 5 this)) rfl (fun _ => ⟨_, rfl, rfl⟩) ?_
        exact u_X6_takesChange_30  a1 a2 a3 (5, this)
    · exact sc_ret
def C3_ofChanges_91 (k46 : Int32 → Int32 → Nat → Int32 → CM Int32) (x1 : Int32) (x2 : Int32) (x3 : Nat) (x4 : Int32) : CM Int32 :=
  (k46 x1 x2 x3 (x4 + (1 : Int32)))
def C3_ofChanges_100_st  (k100 : Int32 → Nat → Int32 → CM Int32) (x2 : Int32) (x3 : Nat) (x4 : Int32) : CM Int32 :=
  if x2 ≤ x4 then (cr (0 : Int32)) else (cb (cE (1, 9)) fun _ =>
  cb (C8_get 9 x4) fun v1 =>
  cb (cE (1, 10)) fun _ =>
  cb (C8_get 10 x4) fun v2 =>
  cb (cE (2, x3)) fun _ =>
  cb (C6_slotOf x3 v1 v2) fun v3 =>
  cb (cE (1, 8)) fun _ =>
  cb (C8_get 8 x4) fun v4 =>
  cb (cE (1, 11)) fun _ =>
  cb (C8_get 11 x4) fun v5 =>
  cb (cE (2, x3)) fun _ =>
  cb (C6_takesChange x3 v3 v4 v5) fun v6 =>
  if v6 = 0 then (cr (6 : Int32)) else ((k100 x2 x3 (x4 + (1 : Int32)))))
def C3_ofChanges_100  : Nat → Int32 → Nat → Int32 → CM Int32
  | 0 => fun _ _ _ => cf
  | n + 1 => fun x2 x3 x4 => C3_ofChanges_100_st  (C3_ofChanges_100  n) x2 x3 x4
def C3_ofChanges_97  (x1 : Int32) (x2 : Int32) (x3 : Nat) : CM Int32 :=
  (C3_ofChanges_100  LFU x2 x3 x1)
def C3_ofChanges_46_st  (k46 : Int32 → Int32 → Nat → Int32 → CM Int32) (x1 : Int32) (x2 : Int32) (x3 : Nat) (x4 : Int32) : CM Int32 :=
  if x2 ≤ x4 then ((C3_ofChanges_97  x1 x2 x3)) else (cb (cE (1, 11)) fun _ =>
  cb (C8_get 11 x4) fun v1 =>
  cb (cE (1, 8)) fun _ =>
  cb (C8_get 8 x4) fun v2 =>
  if v2 = (43 : Int32) then (if v1 < (1 : Int32) then (cr (5 : Int32)) else (if v1 ≤ (4 : Int32) then ((C3_ofChanges_91 k46 x1 x2 x3 x4)) else (cr (5 : Int32)))) else ((C3_ofChanges_91 k46 x1 x2 x3 x4)))
def C3_ofChanges_46  : Nat → Int32 → Int32 → Nat → Int32 → CM Int32
  | 0 => fun _ _ _ _ => cf
  | n + 1 => fun x1 x2 x3 x4 => C3_ofChanges_46_st  (C3_ofChanges_46  n) x1 x2 x3 x4
def C3_ofChanges_43  (x1 : Int32) (x2 : Int32) (x3 : Nat) : CM Int32 :=
  (C3_ofChanges_46  LFU x1 x2 x3 x1)
def C3_ofChanges_3_st  (k3 : Int32 → Int32 → Nat → Int32 → CM Int32) (x1 : Int32) (x2 : Int32) (x3 : Nat) (x4 : Int32) : CM Int32 :=
  if x2 ≤ x4 then ((C3_ofChanges_43  x1 x2 x3)) else (cb (cE (1, 9)) fun _ =>
  cb (C8_get 9 x4) fun v1 =>
  cb (cE (1, 10)) fun _ =>
  cb (C8_get 10 x4) fun v2 =>
  cb (cE (2, x3)) fun _ =>
  cb (C6_slotOf x3 v1 v2) fun v3 =>
  if v3 = (-1 : Int32) then (cr (4 : Int32)) else ((k3 x1 x2 x3 (x4 + (1 : Int32)))))
def C3_ofChanges_3  : Nat → Int32 → Int32 → Nat → Int32 → CM Int32
  | 0 => fun _ _ _ _ => cf
  | n + 1 => fun x1 x2 x3 x4 => C3_ofChanges_3_st  (C3_ofChanges_3  n) x1 x2 x3 x4
def C3_ofChanges (a1 : Int32) (a2 : Int32) (a3 : Nat) : CM Int32 :=
  (C3_ofChanges_3  LFU a1 a2 a3 a1)
theorem u_X3_ofChanges_91 {am : AM} {k46 : Int32 → Int32 → Nat → Int32 → CM Int32} (K46 : Option Nat → Int32 → Int32 → Option Nat → Int32 → MM Int32) (hk46 : ∀ (x1 : Int32) (x2 : Int32) (x3 : Nat) (x4 : Int32), Sc am id (K46 (some (am.1 + 21)) x1 x2 (some (aPl am x3)) x4) (k46 x1 x2 x3 x4)) (x1 : Int32) (x2 : Int32) (x3 : Nat) (x4 : Int32) : Sc am id (X3_ofChanges_91 K46 (some (am.1 + 21)) x1 x2 (some (aPl am x3)) x4) (C3_ofChanges_91 k46 x1 x2 x3 x4) := by
  unfold X3_ofChanges_91 C3_ofChanges_91
  exact hk46 x1 x2 x3 (x4 + (1 : Int32))
theorem u_X3_ofChanges_100_st {am : AM} {k100 : Int32 → Nat → Int32 → CM Int32} (K100 : Option Nat → Int32 → Option Nat → Int32 → MM Int32) (hk100 : ∀ (x2 : Int32) (x3 : Nat) (x4 : Int32), Sc am id (K100 (some (am.1 + 21)) x2 (some (aPl am x3)) x4) (k100 x2 x3 x4)) (x2 : Int32) (x3 : Nat) (x4 : Int32) : Sc am id (X3_ofChanges_100_st  K100 (some (am.1 + 21)) x2 (some (aPl am x3)) x4) (C3_ofChanges_100_st  k100 x2 x3 x4) := by
  unfold X3_ofChanges_100_st C3_ofChanges_100_st
  refine sc_ite ?_ ?_
  · exact sc_ret
  · refine sc_gR (q := (9, 0)) (b := (aRo am 9)) (fun _ => rfl) rfl (fun _ => ⟨_, rfl, rfl⟩) ?_
    refine sc_wcd (q := (1, 9)) (k := id) rfl (fun _ => ⟨_, rfl⟩) (u_X8_get 9 x4) fun v1 => ?_
    refine sc_gR (q := (9, 0)) (b := (aRo am 10)) (fun _ => rfl) rfl (fun _ => ⟨_, rfl, rfl⟩) ?_
    refine sc_wcd (q := (1, 10)) (k := id) rfl (fun _ => ⟨_, rfl⟩) (u_X8_get 10 x4) fun v2 => ?_
    refine sc_wcd (q := (2, x3)) (k := id) rfl (fun _ => ⟨_, rfl⟩) (u_X6_slotOf x3 v1 v2) fun v3 => ?_
    refine sc_gR (q := (9, 0)) (b := (aRo am 8)) (fun _ => rfl) rfl (fun _ => ⟨_, rfl, rfl⟩) ?_
    refine sc_wcd (q := (1, 8)) (k := id) rfl (fun _ => ⟨_, rfl⟩) (u_X8_get 8 x4) fun v4 => ?_
    refine sc_gR (q := (9, 0)) (b := (aRo am 11)) (fun _ => rfl) rfl (fun _ => ⟨_, rfl, rfl⟩) ?_
    refine sc_wcd (q := (1, 11)) (k := id) rfl (fun _ => ⟨_, rfl⟩) (u_X8_get 11 x4) fun v5 => ?_
    refine sc_wcd (q := (2, x3)) (k := id) rfl (fun _ => ⟨_, rfl⟩) (u_X6_takesChange x3 v3 v4 v5) fun v6 => ?_
    refine sc_ite ?_ ?_
    · exact sc_ret
    · exact hk100 x2 x3 (x4 + (1 : Int32))
theorem u_X3_ofChanges_100 {am : AM} : ∀ (n : Nat) (x2 : Int32) (x3 : Nat) (x4 : Int32), Sc am id (X3_ofChanges_100  n (some (am.1 + 21)) x2 (some (aPl am x3)) x4) (C3_ofChanges_100  n x2 x3 x4) := by
  intro n
  induction n with
  | zero => intro x2 x3 x4; exact sc_mf
  | succ n ih => intro x2 x3 x4; exact u_X3_ofChanges_100_st  _ ih x2 x3 x4
theorem u_X3_ofChanges_97 {am : AM} (x1 : Int32) (x2 : Int32) (x3 : Nat) : Sc am id (X3_ofChanges_97  (some (am.1 + 21)) x1 x2 (some (aPl am x3))) (C3_ofChanges_97  x1 x2 x3) := by
  unfold X3_ofChanges_97 C3_ofChanges_97
  exact u_X3_ofChanges_100  LFU x2 x3 x1
theorem u_X3_ofChanges_46_st {am : AM} {k46 : Int32 → Int32 → Nat → Int32 → CM Int32} (K46 : Option Nat → Int32 → Int32 → Option Nat → Int32 → MM Int32) (hk46 : ∀ (x1 : Int32) (x2 : Int32) (x3 : Nat) (x4 : Int32), Sc am id (K46 (some (am.1 + 21)) x1 x2 (some (aPl am x3)) x4) (k46 x1 x2 x3 x4)) (x1 : Int32) (x2 : Int32) (x3 : Nat) (x4 : Int32) : Sc am id (X3_ofChanges_46_st  K46 (some (am.1 + 21)) x1 x2 (some (aPl am x3)) x4) (C3_ofChanges_46_st  k46 x1 x2 x3 x4) := by
  unfold X3_ofChanges_46_st C3_ofChanges_46_st
  refine sc_ite ?_ ?_
  · exact u_X3_ofChanges_97  x1 x2 x3
  · refine sc_gR (q := (9, 0)) (b := (aRo am 11)) (fun _ => rfl) rfl (fun _ => ⟨_, rfl, rfl⟩) ?_
    refine sc_wcd (q := (1, 11)) (k := id) rfl (fun _ => ⟨_, rfl⟩) (u_X8_get 11 x4) fun v1 => ?_
    refine sc_gR (q := (9, 0)) (b := (aRo am 8)) (fun _ => rfl) rfl (fun _ => ⟨_, rfl, rfl⟩) ?_
    refine sc_wcd (q := (1, 8)) (k := id) rfl (fun _ => ⟨_, rfl⟩) (u_X8_get 8 x4) fun v2 => ?_
    refine sc_ite ?_ ?_
    · refine sc_ite ?_ ?_
      · exact sc_ret
      · refine sc_ite ?_ ?_
        · exact u_X3_ofChanges_91 _ hk46 x1 x2 x3 x4
        · exact sc_ret
    · exact u_X3_ofChanges_91 _ hk46 x1 x2 x3 x4
theorem u_X3_ofChanges_46 {am : AM} : ∀ (n : Nat) (x1 : Int32) (x2 : Int32) (x3 : Nat) (x4 : Int32), Sc am id (X3_ofChanges_46  n (some (am.1 + 21)) x1 x2 (some (aPl am x3)) x4) (C3_ofChanges_46  n x1 x2 x3 x4) := by
  intro n
  induction n with
  | zero => intro x1 x2 x3 x4; exact sc_mf
  | succ n ih => intro x1 x2 x3 x4; exact u_X3_ofChanges_46_st  _ ih x1 x2 x3 x4
theorem u_X3_ofChanges_43 {am : AM} (x1 : Int32) (x2 : Int32) (x3 : Nat) : Sc am id (X3_ofChanges_43  (some (am.1 + 21)) x1 x2 (some (aPl am x3))) (C3_ofChanges_43  x1 x2 x3) := by
  unfold X3_ofChanges_43 C3_ofChanges_43
  exact u_X3_ofChanges_46  LFU x1 x2 x3 x1
theorem u_X3_ofChanges_3_st {am : AM} {k3 : Int32 → Int32 → Nat → Int32 → CM Int32} (K3 : Option Nat → Int32 → Int32 → Option Nat → Int32 → MM Int32) (hk3 : ∀ (x1 : Int32) (x2 : Int32) (x3 : Nat) (x4 : Int32), Sc am id (K3 (some (am.1 + 21)) x1 x2 (some (aPl am x3)) x4) (k3 x1 x2 x3 x4)) (x1 : Int32) (x2 : Int32) (x3 : Nat) (x4 : Int32) : Sc am id (X3_ofChanges_3_st  K3 (some (am.1 + 21)) x1 x2 (some (aPl am x3)) x4) (C3_ofChanges_3_st  k3 x1 x2 x3 x4) := by
  unfold X3_ofChanges_3_st C3_ofChanges_3_st
  refine sc_ite ?_ ?_
  · exact u_X3_ofChanges_43  x1 x2 x3
  · refine sc_gR (q := (9, 0)) (b := (aRo am 9)) (fun _ => rfl) rfl (fun _ => ⟨_, rfl, rfl⟩) ?_
    refine sc_wcd (q := (1, 9)) (k := id) rfl (fun _ => ⟨_, rfl⟩) (u_X8_get 9 x4) fun v1 => ?_
    refine sc_gR (q := (9, 0)) (b := (aRo am 10)) (fun _ => rfl) rfl (fun _ => ⟨_, rfl, rfl⟩) ?_
    refine sc_wcd (q := (1, 10)) (k := id) rfl (fun _ => ⟨_, rfl⟩) (u_X8_get 10 x4) fun v2 => ?_
    refine sc_wcd (q := (2, x3)) (k := id) rfl (fun _ => ⟨_, rfl⟩) (u_X6_slotOf x3 v1 v2) fun v3 => ?_
    refine sc_ite ?_ ?_
    · exact sc_ret
    · exact hk3 x1 x2 x3 (x4 + (1 : Int32))
theorem u_X3_ofChanges_3 {am : AM} : ∀ (n : Nat) (x1 : Int32) (x2 : Int32) (x3 : Nat) (x4 : Int32), Sc am id (X3_ofChanges_3  n (some (am.1 + 21)) x1 x2 (some (aPl am x3)) x4) (C3_ofChanges_3  n x1 x2 x3 x4) := by
  intro n
  induction n with
  | zero => intro x1 x2 x3 x4; exact sc_mf
  | succ n ih => intro x1 x2 x3 x4; exact u_X3_ofChanges_3_st  _ ih x1 x2 x3 x4
theorem u_X3_ofChanges {am : AM} (a1 : Int32) (a2 : Int32) (a3 : Nat) : Sc am id (X3_ofChanges (some (am.1 + 21)) a1 a2 (some (aPl am a3))) (C3_ofChanges a1 a2 a3) := by
  unfold X3_ofChanges C3_ofChanges
  exact u_X3_ofChanges_3  LFU a1 a2 a3 a1
def C3_ofGroup_140  (x1 : Int32) (x2 : Int32) (x3 : Nat) (x4 : Int32) (x6 : Int32) (x7 : Int32) (y0 : Int32) : CM Int32 :=
  cb (cE (2, x3)) fun _ =>
  cb (C6_addGroup x3 x4 y0 x6 x7) fun _ =>
  cb (cE (1, 7)) fun _ =>
  cb (C8_get 7 x1) fun v1 =>
  cb (C3_ofSigns x2 v1 x4 y0) fun v2 =>
  if v2 = 0 then (cr (4 : Int32)) else (cb (C3_ofChanges x2 v1 x3) fun v3 =>
  cr v3)
def C3_ofGroup_109  (x1 : Int32) (x2 : Int32) (x3 : Nat) (x4 : Int32) (x5 : Int32) (x6 : Int32) (x7 : Int32) : CM Int32 :=
  cb (C3_isSize x6) fun v1 =>
  if v1 = 0 then (cr (3 : Int32)) else (cb (C3_isSize x7) fun v2 =>
  if v2 = 0 then (cr (3 : Int32)) else (if x5 = (-1 : Int32) then ((C3_ofGroup_140  x1 x2 x3 x4 x6 x7 x4)) else ((C3_ofGroup_140  x1 x2 x3 x4 x6 x7 x5))))
def C3_ofGroup_79  (x1 : Int32) (x2 : Int32) (x3 : Nat) (x4 : Int32) (x5 : Int32) (x6 : Int32) (x7 : Int32) : CM Int32 :=
  if x4 = (70 : Int32) then (cb (cE (2, x3)) fun _ =>
  cb (C6_sizeOf x3 (70 : Int32)) fun v1 =>
  if v1 ≤ 0 then ((C3_ofGroup_109  x1 x2 x3 x4 x5 x6 x7)) else (cr (2 : Int32))) else (cb (cG 7 x3) fun v2 =>
  if v2 < x4 then ((C3_ofGroup_109  x1 x2 x3 x4 x5 x6 x7)) else (cr (2 : Int32)))
def C3_ofGroup (a1 : Int32) (a2 : Int32) (a3 : Nat) : CM Int32 :=
  cb (cE (1, 3)) fun _ =>
  cb (C8_get 3 a1) fun v1 =>
  cb (cE (1, 4)) fun _ =>
  cb (C8_get 4 a1) fun v2 =>
  cb (cE (1, 5)) fun _ =>
  cb (C8_get 5 a1) fun v3 =>
  cb (cE (1, 6)) fun _ =>
  cb (C8_get 6 a1) fun v4 =>
  if v2 = (-1 : Int32) then ((C3_ofGroup_79  a1 a2 a3 v1 v2 v3 v4)) else (if v1 = 0 then (cr (1 : Int32)) else (if v2 = (70 : Int32) then (cr (1 : Int32)) else (if v1 < v2 then ((C3_ofGroup_79  a1 a2 a3 v1 v2 v3 v4)) else (cr (1 : Int32)))))
theorem u_X3_ofGroup_140 {am : AM} (x1 : Int32) (x2 : Int32) (x3 : Nat) (x4 : Int32) (x6 : Int32) (x7 : Int32) (y0 : Int32) : Sc am id (X3_ofGroup_140  (some (am.1 + 9)) x1 x2 (some (aPl am x3)) x4 x6 x7 y0) (C3_ofGroup_140  x1 x2 x3 x4 x6 x7 y0) := by
  unfold X3_ofGroup_140 C3_ofGroup_140
  refine sc_wcd (q := (2, x3)) (k := id) rfl (fun _ => ⟨_, rfl⟩) (u_X6_addGroup x3 x4 y0 x6 x7) fun _ => ?_
  refine sc_gR (q := (7, 0)) (b := (am.1 + 10)) (fun _ => rfl) rfl (fun _ => ⟨_, rfl, rfl⟩) ?_
  refine sc_gR (q := (8, 0)) (b := (aRo am 7)) (fun _ => rfl) rfl (fun _ => ⟨_, rfl, rfl⟩) ?_
  refine sc_wcd (q := (1, 7)) (k := id) rfl (fun _ => ⟨_, rfl⟩) (u_X8_get 7 x1) fun v1 => ?_
  refine sc_gR (q := (7, 0)) (b := (am.1 + 21)) (fun _ => rfl) rfl (fun _ => ⟨_, rfl, rfl⟩) ?_
  refine sc_cal (k := id) (u_X3_ofSigns x2 v1 x4 y0) fun v2 => ?_
  refine sc_ite ?_ ?_
  · exact sc_ret
  · refine sc_gR (q := (7, 0)) (b := (am.1 + 21)) (fun _ => rfl) rfl (fun _ => ⟨_, rfl, rfl⟩) ?_
    refine sc_cal (k := id) (u_X3_ofChanges x2 v1 x3) fun v3 => ?_
    exact sc_ret
theorem u_X3_ofGroup_109 {am : AM} (x1 : Int32) (x2 : Int32) (x3 : Nat) (x4 : Int32) (x5 : Int32) (x6 : Int32) (x7 : Int32) : Sc am id (X3_ofGroup_109  (some (am.1 + 9)) x1 x2 (some (aPl am x3)) x4 x5 x6 x7) (C3_ofGroup_109  x1 x2 x3 x4 x5 x6 x7) := by
  unfold X3_ofGroup_109 C3_ofGroup_109
  refine sc_cal (k := id) (u_X3_isSize x6) fun v1 => ?_
  refine sc_ite ?_ ?_
  · exact sc_ret
  · refine sc_cal (k := id) (u_X3_isSize x7) fun v2 => ?_
    refine sc_ite ?_ ?_
    · exact sc_ret
    · refine sc_ite ?_ ?_
      · exact u_X3_ofGroup_140  x1 x2 x3 x4 x6 x7 x4
      · exact u_X3_ofGroup_140  x1 x2 x3 x4 x6 x7 x5
theorem u_X3_ofGroup_79 {am : AM} (x1 : Int32) (x2 : Int32) (x3 : Nat) (x4 : Int32) (x5 : Int32) (x6 : Int32) (x7 : Int32) : Sc am id (X3_ofGroup_79  (some (am.1 + 9)) x1 x2 (some (aPl am x3)) x4 x5 x6 x7) (C3_ofGroup_79  x1 x2 x3 x4 x5 x6 x7) := by
  unfold X3_ofGroup_79 C3_ofGroup_79
  refine sc_ite ?_ ?_
  · refine sc_wcd (q := (2, x3)) (k := id) rfl (fun _ => ⟨_, rfl⟩) (u_X6_sizeOf x3 (70 : Int32)) fun v1 => ?_
    refine sc_ite ?_ ?_
    · exact u_X3_ofGroup_109  x1 x2 x3 x4 x5 x6 x7
    · exact sc_ret
  · refine sc_gI (t := 7) (i := x3) rfl (fun _ => ⟨_, rfl, rfl⟩) fun v2 => ?_
    refine sc_ite ?_ ?_
    · exact u_X3_ofGroup_109  x1 x2 x3 x4 x5 x6 x7
    · exact sc_ret
theorem u_X3_ofGroup {am : AM} (a1 : Int32) (a2 : Int32) (a3 : Nat) : Sc am id (X3_ofGroup (some (am.1 + 9)) a1 a2 (some (aPl am a3))) (C3_ofGroup a1 a2 a3) := by
  unfold X3_ofGroup C3_ofGroup
  refine sc_gR (q := (7, 0)) (b := (am.1 + 10)) (fun _ => rfl) rfl (fun _ => ⟨_, rfl, rfl⟩) ?_
  refine sc_gR (q := (8, 0)) (b := (aRo am 3)) (fun _ => rfl) rfl (fun _ => ⟨_, rfl, rfl⟩) ?_
  refine sc_wcd (q := (1, 3)) (k := id) rfl (fun _ => ⟨_, rfl⟩) (u_X8_get 3 a1) fun v1 => ?_
  refine sc_gR (q := (7, 0)) (b := (am.1 + 10)) (fun _ => rfl) rfl (fun _ => ⟨_, rfl, rfl⟩) ?_
  refine sc_gR (q := (8, 0)) (b := (aRo am 4)) (fun _ => rfl) rfl (fun _ => ⟨_, rfl, rfl⟩) ?_
  refine sc_wcd (q := (1, 4)) (k := id) rfl (fun _ => ⟨_, rfl⟩) (u_X8_get 4 a1) fun v2 => ?_
  refine sc_gR (q := (7, 0)) (b := (am.1 + 10)) (fun _ => rfl) rfl (fun _ => ⟨_, rfl, rfl⟩) ?_
  refine sc_gR (q := (8, 0)) (b := (aRo am 5)) (fun _ => rfl) rfl (fun _ => ⟨_, rfl, rfl⟩) ?_
  refine sc_wcd (q := (1, 5)) (k := id) rfl (fun _ => ⟨_, rfl⟩) (u_X8_get 5 a1) fun v3 => ?_
  refine sc_gR (q := (7, 0)) (b := (am.1 + 10)) (fun _ => rfl) rfl (fun _ => ⟨_, rfl, rfl⟩) ?_
  refine sc_gR (q := (8, 0)) (b := (aRo am 6)) (fun _ => rfl) rfl (fun _ => ⟨_, rfl, rfl⟩) ?_
  refine sc_wcd (q := (1, 6)) (k := id) rfl (fun _ => ⟨_, rfl⟩) (u_X8_get 6 a1) fun v4 => ?_
  refine sc_ite ?_ ?_
  · exact u_X3_ofGroup_79  a1 a2 a3 v1 v2 v3 v4
  · refine sc_ite ?_ ?_
    · exact sc_ret
    · refine sc_ite ?_ ?_
      · exact sc_ret
      · refine sc_ite ?_ ?_
        · exact u_X3_ofGroup_79  a1 a2 a3 v1 v2 v3 v4
        · exact sc_ret
def C3_ofFormula_8_st  (k8 : Nat → Int32 → Int32 → CM Int32) (x1 : Nat) (x2 : Int32) (x3 : Int32) : CM Int32 :=
  cb (cG 1 3) fun v1 =>
  if v1 ≤ x3 then (cr (0 : Int32)) else (cb (C3_ofGroup x3 x2 x1) fun v2 =>
  if v2 = 0 then (cb (cE (1, 7)) fun _ =>
  cb (C8_get 7 x3) fun v3 =>
  (k8 x1 v3 (x3 + (1 : Int32)))) else (cr v2))
def C3_ofFormula_8  : Nat → Nat → Int32 → Int32 → CM Int32
  | 0 => fun _ _ _ => cf
  | n + 1 => fun x1 x2 x3 => C3_ofFormula_8_st  (C3_ofFormula_8  n) x1 x2 x3
def C3_ofFormula (a1 : Nat) : CM Int32 :=
  cb (cE (2, a1)) fun _ =>
  cb (C6_clear a1 ) fun _ =>
  (C3_ofFormula_8  LFU a1 (0 : Int32) (0 : Int32))
theorem u_X3_ofFormula_8_st {am : AM} {k8 : Nat → Int32 → Int32 → CM Int32} (K8 : Option Nat → Option Nat → Int32 → Int32 → MM Int32) (hk8 : ∀ (x1 : Nat) (x2 : Int32) (x3 : Int32), Sc am id (K8 (some (am.1 + 9)) (some (aPl am x1)) x2 x3) (k8 x1 x2 x3)) (x1 : Nat) (x2 : Int32) (x3 : Int32) : Sc am id (X3_ofFormula_8_st  K8 (some (am.1 + 9)) (some (aPl am x1)) x2 x3) (C3_ofFormula_8_st  k8 x1 x2 x3) := by
  unfold X3_ofFormula_8_st C3_ofFormula_8_st
  refine sc_gR (q := (7, 0)) (b := (am.1 + 10)) (fun _ => rfl) rfl (fun _ => ⟨_, rfl, rfl⟩) ?_
  refine sc_gR (q := (8, 0)) (b := (aRo am 3)) (fun _ => rfl) rfl (fun _ => ⟨_, rfl, rfl⟩) ?_
  refine sc_gI (t := 1) (i := 3) rfl (fun _ => ⟨_, rfl, rfl⟩) fun v1 => ?_
  refine sc_ite ?_ ?_
  · exact sc_ret
  · refine sc_cal (k := id) (u_X3_ofGroup x3 x2 x1) fun v2 => ?_
    refine sc_ite ?_ ?_
    · refine sc_gR (q := (7, 0)) (b := (am.1 + 10)) (fun _ => rfl) rfl (fun _ => ⟨_, rfl, rfl⟩) ?_
      refine sc_gR (q := (8, 0)) (b := (aRo am 7)) (fun _ => rfl) rfl (fun _ => ⟨_, rfl, rfl⟩) ?_
      refine sc_wcd (q := (1, 7)) (k := id) rfl (fun _ => ⟨_, rfl⟩) (u_X8_get 7 x3) fun v3 => ?_
      exact hk8 x1 v3 (x3 + (1 : Int32))
    · exact sc_ret
theorem u_X3_ofFormula_8 {am : AM} : ∀ (n : Nat) (x1 : Nat) (x2 : Int32) (x3 : Int32), Sc am id (X3_ofFormula_8  n (some (am.1 + 9)) (some (aPl am x1)) x2 x3) (C3_ofFormula_8  n x1 x2 x3) := by
  intro n
  induction n with
  | zero => intro x1 x2 x3; exact sc_mf
  | succ n ih => intro x1 x2 x3; exact u_X3_ofFormula_8_st  _ ih x1 x2 x3
theorem u_X3_ofFormula {am : AM} (a1 : Nat) : Sc am id (X3_ofFormula (some (am.1 + 9)) (some (aPl am a1))) (C3_ofFormula a1) := by
  unfold X3_ofFormula C3_ofFormula
  refine sc_wcd (q := (2, a1)) (k := id) rfl (fun _ => ⟨_, rfl⟩) (u_X6_clear a1 ) fun _ => ?_
  exact u_X3_ofFormula_8  LFU a1 (0 : Int32) (0 : Int32)
def C6_insertedAt (this : Nat) (a1 : Int32) : CM Int32 :=
  if a1 < 0 then (cr (0 : Int32)) else (cb (cE (2, this)) fun _ =>
  cb (cN 6 this) fun v1 =>
  if a1 < v1 then (cb (cE (2, this)) fun _ =>
  cb (cAb 6 this a1) fun v2 =>
  cr v2) else (cr (0 : Int32)))
theorem u_X6_insertedAt {am : AM} (this : Nat) (a1 : Int32) : Sc am id (X6_insertedAt (aPl am this) a1) (C6_insertedAt this a1) := by
  unfold X6_insertedAt C6_insertedAt
  refine sc_ite ?_ ?_
  · exact sc_ret
  · refine sc_gRd (q := (2, this)) (b := (aAr am 6 this)) rfl (fun _ => ⟨_, rfl, rfl⟩) ?_
    refine sc_aN (t := 6) (i := this) fun v1 => ?_
    refine sc_ite ?_ ?_
    · refine sc_gRd (q := (2, this)) (b := (aAr am 6 this)) rfl (fun _ => ⟨_, rfl, rfl⟩) ?_
      refine sc_aB (t := 6) (i := this) fun v2 => ?_
      exact sc_ret
    · exact sc_ret
def C6_leavesInAll_26_st  (k26 : Nat → Int32 → Int32 → CM Int32) (this : Nat) (x1 : Int32) (x2 : Int32) : CM Int32 :=
  if (852 : Int32) ≤ x2 then (cr x1) else (cb (cE (2, this)) fun _ =>
  cb (C6_insertedAt this x2) fun v1 =>
  (k26 this (x1 + v1) (x2 + (1 : Int32))))
def C6_leavesInAll_26  : Nat → Nat → Int32 → Int32 → CM Int32
  | 0 => fun _ _ _ => cf
  | n + 1 => fun this x1 x2 => C6_leavesInAll_26_st  (C6_leavesInAll_26  n) this x1 x2
def C6_leavesInAll_24  (this : Nat) (x1 : Int32) : CM Int32 :=
  (C6_leavesInAll_26  LFU this x1 (0 : Int32))
def C6_leavesInAll_4_st  (k4 : Nat → Int32 → Int32 → CM Int32) (this : Nat) (x1 : Int32) (x2 : Int32) : CM Int32 :=
  if (71 : Int32) ≤ x2 then ((C6_leavesInAll_24  this x1)) else (cb (cE (2, this)) fun _ =>
  cb (C6_sizeOf this x2) fun v1 =>
  (k4 this (x1 + v1) (x2 + (1 : Int32))))
def C6_leavesInAll_4  : Nat → Nat → Int32 → Int32 → CM Int32
  | 0 => fun _ _ _ => cf
  | n + 1 => fun this x1 x2 => C6_leavesInAll_4_st  (C6_leavesInAll_4  n) this x1 x2
def C6_leavesInAll (this : Nat) : CM Int32 :=
  (C6_leavesInAll_4  LFU this (0 : Int32) (0 : Int32))
theorem u_X6_leavesInAll_26_st {am : AM} {k26 : Nat → Int32 → Int32 → CM Int32} (K26 : Nat → Int32 → Int32 → MM Int32) (hk26 : ∀ (this : Nat) (x1 : Int32) (x2 : Int32), Sc am id (K26 (aPl am this) x1 x2) (k26 this x1 x2)) (this : Nat) (x1 : Int32) (x2 : Int32) : Sc am id (X6_leavesInAll_26_st  K26 (aPl am this) x1 x2) (C6_leavesInAll_26_st  k26 this x1 x2) := by
  unfold X6_leavesInAll_26_st C6_leavesInAll_26_st
  refine sc_ite ?_ ?_
  · exact sc_ret
  · refine sc_wcd (q := (2, this)) (k := id) rfl (fun _ => ⟨_, rfl⟩) (u_X6_insertedAt this x2) fun v1 => ?_
    exact hk26 this (x1 + v1) (x2 + (1 : Int32))
theorem u_X6_leavesInAll_26 {am : AM} : ∀ (n : Nat) (this : Nat) (x1 : Int32) (x2 : Int32), Sc am id (X6_leavesInAll_26  n (aPl am this) x1 x2) (C6_leavesInAll_26  n this x1 x2) := by
  intro n
  induction n with
  | zero => intro this x1 x2; exact sc_mf
  | succ n ih => intro this x1 x2; exact u_X6_leavesInAll_26_st  _ ih this x1 x2
theorem u_X6_leavesInAll_24 {am : AM} (this : Nat) (x1 : Int32) : Sc am id (X6_leavesInAll_24  (aPl am this) x1) (C6_leavesInAll_24  this x1) := by
  unfold X6_leavesInAll_24 C6_leavesInAll_24
  exact u_X6_leavesInAll_26  LFU this x1 (0 : Int32)
theorem u_X6_leavesInAll_4_st {am : AM} {k4 : Nat → Int32 → Int32 → CM Int32} (K4 : Nat → Int32 → Int32 → MM Int32) (hk4 : ∀ (this : Nat) (x1 : Int32) (x2 : Int32), Sc am id (K4 (aPl am this) x1 x2) (k4 this x1 x2)) (this : Nat) (x1 : Int32) (x2 : Int32) : Sc am id (X6_leavesInAll_4_st  K4 (aPl am this) x1 x2) (C6_leavesInAll_4_st  k4 this x1 x2) := by
  unfold X6_leavesInAll_4_st C6_leavesInAll_4_st
  refine sc_ite ?_ ?_
  · exact u_X6_leavesInAll_24  this x1
  · refine sc_wcd (q := (2, this)) (k := id) rfl (fun _ => ⟨_, rfl⟩) (u_X6_sizeOf this x2) fun v1 => ?_
    exact hk4 this (x1 + v1) (x2 + (1 : Int32))
theorem u_X6_leavesInAll_4 {am : AM} : ∀ (n : Nat) (this : Nat) (x1 : Int32) (x2 : Int32), Sc am id (X6_leavesInAll_4  n (aPl am this) x1 x2) (C6_leavesInAll_4  n this x1 x2) := by
  intro n
  induction n with
  | zero => intro this x1 x2; exact sc_mf
  | succ n ih => intro this x1 x2; exact u_X6_leavesInAll_4_st  _ ih this x1 x2
theorem u_X6_leavesInAll {am : AM} (this : Nat) : Sc am id (X6_leavesInAll (aPl am this)) (C6_leavesInAll this) := by
  unfold X6_leavesInAll C6_leavesInAll
  exact u_X6_leavesInAll_4  LFU this (0 : Int32) (0 : Int32)
def C11_refusalOfDraft  : CM Int32 :=
  cb (cG 10 0) fun v1 =>
  if v1 = 0 then (cb (cE (2, 0)) fun _ =>
  cb (C6_leavesInAll 0 ) fun v2 =>
  if v2 ≤ (400 : Int32) then (cr (0 : Int32)) else (cr (9 : Int32))) else (cr (4 : Int32))
theorem u_X11_refusalOfDraft {am : AM}  : Sc am id (X11_refusalOfDraft am.1) (C11_refusalOfDraft ) := by
  unfold X11_refusalOfDraft C11_refusalOfDraft
  refine sc_gI (t := 10) (i := 0) rfl (fun _ => ⟨_, rfl, rfl⟩) fun v1 => ?_
  refine sc_ite ?_ ?_
  · refine sc_gR (q := (5, 0)) (b := (aPl am 0)) (fun _ => rfl) rfl (fun _ => ⟨_, rfl, rfl⟩) ?_
    refine sc_wcd (q := (2, 0)) (k := id) rfl (fun _ => ⟨_, rfl⟩) (u_X6_leavesInAll 0 ) fun v2 => ?_
    refine sc_ite ?_ ?_
    · exact sc_ret
    · exact sc_ret
  · exact sc_ret
def C11_draftFormula  : CM Int32 :=
  cb (C3_ofFormula 0) fun v1 =>
  cb (cP 10 0 v1) fun _ =>
  cb (C11_refusalOfDraft ) fun v2 =>
  cr v2
theorem u_X11_draftFormula {am : AM}  : Sc am id (X11_draftFormula am.1) (C11_draftFormula ) := by
  unfold X11_draftFormula C11_draftFormula
  refine sc_gR (q := (5, 0)) (b := (am.1 + 9)) (fun _ => rfl) rfl (fun _ => ⟨_, rfl, rfl⟩) ?_
  refine sc_gR (q := (5, 0)) (b := (aPl am 0)) (fun _ => rfl) rfl (fun _ => ⟨_, rfl, rfl⟩) ?_
  refine sc_cal (k := id) (u_X3_ofFormula 0) fun v1 => ?_
  refine sc_pI (t := 10) (i := 0) (by decide) rfl (fun _ => ⟨_, rfl, Nat.le_of_ble_eq_true rfl, celp10⟩) ?_
  refine sc_wc (q := (5, 0)) (k := id) (fun _ => rfl) rfl (fun _ => ⟨_, rfl⟩) (u_X11_refusalOfDraft ) fun v2 => ?_
  exact sc_ret
def C6_signOf (this : Nat) (a1 : Int32) : CM Int32 :=
  if a1 < 0 then (cr (-1 : Int32)) else (cb (cG 6 this) fun v1 =>
  if v1 ≤ a1 then (cr (-1 : Int32)) else (cb (cE (2, this)) fun _ =>
  cb (cN 3 this) fun v2 =>
  if a1 < v2 then (cb (cE (2, this)) fun _ =>
  cb (cA 3 this a1) fun v3 =>
  cr v3) else (cr (-1 : Int32))))
theorem u_X6_signOf {am : AM} (this : Nat) (a1 : Int32) : Sc am id (X6_signOf (aPl am this) a1) (C6_signOf this a1) := by
  unfold X6_signOf C6_signOf
  refine sc_ite ?_ ?_
  · exact sc_ret
  · refine sc_gI (t := 6) (i := this) rfl (fun _ => ⟨_, rfl, rfl⟩) fun v1 => ?_
    refine sc_ite ?_ ?_
    · exact sc_ret
    · refine sc_gRd (q := (2, this)) (b := (aAr am 3 this)) rfl (fun _ => ⟨_, rfl, rfl⟩) ?_
      refine sc_aN (t := 3) (i := this) fun v2 => ?_
      refine sc_ite ?_ ?_
      · refine sc_gRd (q := (2, this)) (b := (aAr am 3 this)) rfl (fun _ => ⟨_, rfl, rfl⟩) ?_
        refine sc_aI (t := 3) (i := this) fun v3 => ?_
        exact sc_ret
      · exact sc_ret
def C9_goesOn (a0 : Nat) (a1 : Int32) : CM Int32 :=
  cb (cE (2, a0)) fun _ =>
  cb (C6_signOf a0 a1) fun v1 =>
  cb (cE (2, a0)) fun _ =>
  cb (C6_signOf a0 (a1 + (1 : Int32))) fun v2 =>
  if v1 ≤ 0 then (cr (0 : Int32)) else (if (70 : Int32) ≤ v2 then (cr (0 : Int32)) else (if v2 = (v1 + (1 : Int32)) then (cb (cE (2, a0)) fun _ =>
  cb (C6_sizeOf a0 v1) fun v3 =>
  cb (cE (2, a0)) fun _ =>
  cb (C6_sizeOf a0 v2) fun v4 =>
  if v3 = v4 then (cr (1 : Int32)) else (cr (0 : Int32))) else (cr (0 : Int32))))
theorem u_X9_goesOn {am : AM} (a0 : Nat) (a1 : Int32) : Sc am id (X9_goesOn (some (aPl am a0)) a1) (C9_goesOn a0 a1) := by
  unfold X9_goesOn C9_goesOn
  refine sc_wcd (q := (2, a0)) (k := id) rfl (fun _ => ⟨_, rfl⟩) (u_X6_signOf a0 a1) fun v1 => ?_
  refine sc_wcd (q := (2, a0)) (k := id) rfl (fun _ => ⟨_, rfl⟩) (u_X6_signOf a0 (a1 + (1 : Int32))) fun v2 => ?_
  refine sc_ite ?_ ?_
  · exact sc_ret
  · refine sc_ite ?_ ?_
    · exact sc_ret
    · refine sc_ite ?_ ?_
      · refine sc_wcd (q := (2, a0)) (k := id) rfl (fun _ => ⟨_, rfl⟩) (u_X6_sizeOf a0 v1) fun v3 => ?_
        refine sc_wcd (q := (2, a0)) (k := id) rfl (fun _ => ⟨_, rfl⟩) (u_X6_sizeOf a0 v2) fun v4 => ?_
        refine sc_ite ?_ ?_
        · exact sc_ret
        · exact sc_ret
      · exact sc_ret
def C9_writeSign_61_st  (k61 : Int32 → Int32 → Int32 → CM Unit) (x2 : Int32) (x3 : Int32) (x4 : Int32) : CM Unit :=
  if x3 ≤ x4 then (cr ()) else (cb (cSc 3 x2) fun v1 =>
  cb (cXc v1) fun _ =>
  (k61 x2 x3 (x4 + (1 : Int32))))
def C9_writeSign_61  : Nat → Int32 → Int32 → Int32 → CM Unit
  | 0 => fun _ _ _ => cf
  | n + 1 => fun x2 x3 x4 => C9_writeSign_61_st  (C9_writeSign_61  n) x2 x3 x4
def C9_writeSign (a1 : Int32) : CM Unit :=
  if 0 < a1 then (if a1 < (70 : Int32) then (cb (cSl 3) fun v1 =>
  cb (crI (a1 - (1 : Int32)) v1) fun v2 =>
  cb (cSl 3) fun v3 =>
  cb (cdI (a1 - (1 : Int32)) v3) fun v4 =>
  (C9_writeSign_61  LFU v2 (v4 + (1 : Int32)) (0 : Int32))) else (cb (cXs 2) fun _ =>
  cr ())) else (cb (cXs 1) fun _ =>
  cr ())
theorem u_X9_writeSign_61_st {am : AM} {k61 : Int32 → Int32 → Int32 → CM Unit} (K61 : Nat → Int32 → Int32 → Int32 → MM Unit) (hk61 : ∀ (x2 : Int32) (x3 : Int32) (x4 : Int32), Sc am id (K61 (am.1 + 41) x2 x3 x4) (k61 x2 x3 x4)) (x2 : Int32) (x3 : Int32) (x4 : Int32) : Sc am id (X9_writeSign_61_st  K61 (am.1 + 41) x2 x3 x4) (C9_writeSign_61_st  k61 x2 x3 x4) := by
  unfold X9_writeSign_61_st C9_writeSign_61_st
  refine sc_ite ?_ ?_
  · exact sc_ret
  · refine sc_gR (q := (13, 0)) (b := (am.1 + 42)) (fun _ => rfl) rfl (fun _ => ⟨_, rfl, rfl⟩) ?_
    refine sc_kR (i := 3) rfl ?_
    refine sc_cSc fun v1 => ?_
    refine sc_Xc ?_
    exact hk61 x2 x3 (x4 + (1 : Int32))
theorem u_X9_writeSign_61 {am : AM} : ∀ (n : Nat) (x2 : Int32) (x3 : Int32) (x4 : Int32), Sc am id (X9_writeSign_61  n (am.1 + 41) x2 x3 x4) (C9_writeSign_61  n x2 x3 x4) := by
  intro n
  induction n with
  | zero => intro x2 x3 x4; exact sc_mf
  | succ n ih => intro x2 x3 x4; exact u_X9_writeSign_61_st  _ ih x2 x3 x4
theorem u_X9_writeSign {am : AM} (a1 : Int32) : Sc am id (X9_writeSign (am.1 + 41) a1) (C9_writeSign a1) := by
  unfold X9_writeSign C9_writeSign
  refine sc_ite ?_ ?_
  · refine sc_ite ?_ ?_
    · refine sc_kR (i := 3) rfl ?_
      refine sc_cSl fun v1 => ?_
      refine sc_rI fun v2 => ?_
      refine sc_kR (i := 3) rfl ?_
      refine sc_cSl fun v3 => ?_
      refine sc_dI fun v4 => ?_
      exact u_X9_writeSign_61  LFU v2 (v4 + (1 : Int32)) (0 : Int32)
    · refine sc_gR (q := (13, 0)) (b := (am.1 + 42)) (fun _ => rfl) rfl (fun _ => ⟨_, rfl, rfl⟩) ?_
      refine sc_kR (i := 2) rfl ?_
      refine sc_Xs ?_
      exact sc_ret
  · refine sc_gR (q := (13, 0)) (b := (am.1 + 42)) (fun _ => rfl) rfl (fun _ => ⟨_, rfl, rfl⟩) ?_
    refine sc_kR (i := 1) rfl ?_
    refine sc_Xs ?_
    exact sc_ret
def C6_fateOf (this : Nat) (a1 : Int32) : CM Int32 :=
  if a1 < 0 then (cr (0 : Int32)) else (cb (cE (2, this)) fun _ =>
  cb (cN 5 this) fun v1 =>
  if a1 < v1 then (cb (cE (2, this)) fun _ =>
  cb (cAb 5 this a1) fun v2 =>
  cr v2) else (cr (0 : Int32)))
theorem u_X6_fateOf {am : AM} (this : Nat) (a1 : Int32) : Sc am id (X6_fateOf (aPl am this) a1) (C6_fateOf this a1) := by
  unfold X6_fateOf C6_fateOf
  refine sc_ite ?_ ?_
  · exact sc_ret
  · refine sc_gRd (q := (2, this)) (b := (aAr am 5 this)) rfl (fun _ => ⟨_, rfl, rfl⟩) ?_
    refine sc_aN (t := 5) (i := this) fun v1 => ?_
    refine sc_ite ?_ ?_
    · refine sc_gRd (q := (2, this)) (b := (aAr am 5 this)) rfl (fun _ => ⟨_, rfl, rfl⟩) ?_
      refine sc_aB (t := 5) (i := this) fun v2 => ?_
      exact sc_ret
    · exact sc_ret
def C9_writeChangesOf_146 (k3 : Nat → Int32 → Int32 → Int32 → CM Unit) (x1 : Nat) (x2 : Int32) (x3 : Int32) (x4 : Int32) : CM Unit :=
  (k3 x1 x2 x3 (x4 + (1 : Int32)))
def C9_writeChangesOf_117 (k3 : Nat → Int32 → Int32 → Int32 → CM Unit) (x1 : Nat) (x2 : Int32) (x3 : Int32) (x4 : Int32) (x7 : Int32) (y0 : Int32) : CM Unit :=
  cb (cXc y0) fun _ =>
  cb (C9_writeSign x2) fun _ =>
  cb (cXi x4) fun _ =>
  cb (cXc (43 : Int32)) fun _ =>
  cb (cXi x7) fun _ =>
  (C9_writeChangesOf_146 k3 x1 x2 x3 x4)
def C9_writeChangesOf_90 (k3 : Nat → Int32 → Int32 → Int32 → CM Unit) (x1 : Nat) (x2 : Int32) (x3 : Int32) (x4 : Int32) (x7 : Int32) : CM Unit :=
  if x7 ≤ 0 then ((C9_writeChangesOf_146 k3 x1 x2 x3 x4)) else (cb cXl fun v1 =>
  if v1 ≤ x3 then ((C9_writeChangesOf_117 k3 x1 x2 x3 x4 x7 (40 : Int32))) else ((C9_writeChangesOf_117 k3 x1 x2 x3 x4 x7 (44 : Int32))))
def C9_writeChangesOf_65 (k3 : Nat → Int32 → Int32 → Int32 → CM Unit) (x1 : Nat) (x2 : Int32) (x3 : Int32) (x4 : Int32) (x6 : Int32) (x7 : Int32) (y0 : Int32) : CM Unit :=
  cb (cXc y0) fun _ =>
  cb (cXc (((x6).toUInt32 % 65536).toInt32)) fun _ =>
  cb (C9_writeSign x2) fun _ =>
  cb (cXi x4) fun _ =>
  (C9_writeChangesOf_90 k3 x1 x2 x3 x4 x7)
def C9_writeChangesOf_3_st  (k3 : Nat → Int32 → Int32 → Int32 → CM Unit) (x1 : Nat) (x2 : Int32) (x3 : Int32) (x4 : Int32) : CM Unit :=
  cb (cE (2, x1)) fun _ =>
  cb (C6_sizeOf x1 x2) fun v1 =>
  if v1 < x4 then (cr ()) else (cb (cE (2, x1)) fun _ =>
  cb (C6_slotOf x1 x2 x4) fun v2 =>
  cb (cE (2, x1)) fun _ =>
  cb (C6_fateOf x1 v2) fun v3 =>
  cb (cE (2, x1)) fun _ =>
  cb (C6_insertedAt x1 v2) fun v4 =>
  if v3 = 0 then ((C9_writeChangesOf_90 k3 x1 x2 x3 x4 v4)) else (cb cXl fun v5 =>
  if v5 ≤ x3 then ((C9_writeChangesOf_65 k3 x1 x2 x3 x4 v3 v4 (40 : Int32))) else ((C9_writeChangesOf_65 k3 x1 x2 x3 x4 v3 v4 (44 : Int32)))))
def C9_writeChangesOf_3  : Nat → Nat → Int32 → Int32 → Int32 → CM Unit
  | 0 => fun _ _ _ _ => cf
  | n + 1 => fun x1 x2 x3 x4 => C9_writeChangesOf_3_st  (C9_writeChangesOf_3  n) x1 x2 x3 x4
def C9_writeChangesOf (a1 : Nat) (a2 : Int32) (a3 : Int32) : CM Unit :=
  (C9_writeChangesOf_3  LFU a1 a2 a3 (1 : Int32))
theorem u_X9_writeChangesOf_146 {am : AM} {k3 : Nat → Int32 → Int32 → Int32 → CM Unit} (K3 : Nat → Option Nat → Int32 → Int32 → Int32 → MM Unit) (hk3 : ∀ (x1 : Nat) (x2 : Int32) (x3 : Int32) (x4 : Int32), Sc am id (K3 (am.1 + 41) (some (aPl am x1)) x2 x3 x4) (k3 x1 x2 x3 x4)) (x1 : Nat) (x2 : Int32) (x3 : Int32) (x4 : Int32) : Sc am id (X9_writeChangesOf_146 K3 (am.1 + 41) (some (aPl am x1)) x2 x3 x4) (C9_writeChangesOf_146 k3 x1 x2 x3 x4) := by
  unfold X9_writeChangesOf_146 C9_writeChangesOf_146
  exact hk3 x1 x2 x3 (x4 + (1 : Int32))
theorem u_X9_writeChangesOf_117 {am : AM} {k3 : Nat → Int32 → Int32 → Int32 → CM Unit} (K3 : Nat → Option Nat → Int32 → Int32 → Int32 → MM Unit) (hk3 : ∀ (x1 : Nat) (x2 : Int32) (x3 : Int32) (x4 : Int32), Sc am id (K3 (am.1 + 41) (some (aPl am x1)) x2 x3 x4) (k3 x1 x2 x3 x4)) (x1 : Nat) (x2 : Int32) (x3 : Int32) (x4 : Int32) (x7 : Int32) (y0 : Int32) : Sc am id (X9_writeChangesOf_117 K3 (am.1 + 41) (some (aPl am x1)) x2 x3 x4 x7 y0 (some (am.1 + 42))) (C9_writeChangesOf_117 k3 x1 x2 x3 x4 x7 y0) := by
  unfold X9_writeChangesOf_117 C9_writeChangesOf_117
  refine sc_Xc ?_
  refine sc_wc (q := (13, 0)) (k := id) (fun _ => rfl) rfl (fun _ => ⟨_, rfl⟩) (u_X9_writeSign x2) fun _ => ?_
  refine sc_gR (q := (13, 0)) (b := (am.1 + 42)) (fun _ => rfl) rfl (fun _ => ⟨_, rfl, rfl⟩) ?_
  refine sc_Xi ?_
  refine sc_Xc ?_
  refine sc_Xi ?_
  exact u_X9_writeChangesOf_146 _ hk3 x1 x2 x3 x4
theorem u_X9_writeChangesOf_90 {am : AM} {k3 : Nat → Int32 → Int32 → Int32 → CM Unit} (K3 : Nat → Option Nat → Int32 → Int32 → Int32 → MM Unit) (hk3 : ∀ (x1 : Nat) (x2 : Int32) (x3 : Int32) (x4 : Int32), Sc am id (K3 (am.1 + 41) (some (aPl am x1)) x2 x3 x4) (k3 x1 x2 x3 x4)) (x1 : Nat) (x2 : Int32) (x3 : Int32) (x4 : Int32) (x7 : Int32) : Sc am id (X9_writeChangesOf_90 K3 (am.1 + 41) (some (aPl am x1)) x2 x3 x4 x7) (C9_writeChangesOf_90 k3 x1 x2 x3 x4 x7) := by
  unfold X9_writeChangesOf_90 C9_writeChangesOf_90
  refine sc_ite ?_ ?_
  · exact u_X9_writeChangesOf_146 _ hk3 x1 x2 x3 x4
  · refine sc_gR (q := (13, 0)) (b := (am.1 + 42)) (fun _ => rfl) rfl (fun _ => ⟨_, rfl, rfl⟩) ?_
    refine sc_gR (q := (13, 0)) (b := (am.1 + 42)) (fun _ => rfl) rfl (fun _ => ⟨_, rfl, rfl⟩) ?_
    refine sc_Xl fun v1 => ?_
    refine sc_ite ?_ ?_
    · exact u_X9_writeChangesOf_117 _ hk3 x1 x2 x3 x4 x7 (40 : Int32)
    · exact u_X9_writeChangesOf_117 _ hk3 x1 x2 x3 x4 x7 (44 : Int32)
theorem u_X9_writeChangesOf_65 {am : AM} {k3 : Nat → Int32 → Int32 → Int32 → CM Unit} (K3 : Nat → Option Nat → Int32 → Int32 → Int32 → MM Unit) (hk3 : ∀ (x1 : Nat) (x2 : Int32) (x3 : Int32) (x4 : Int32), Sc am id (K3 (am.1 + 41) (some (aPl am x1)) x2 x3 x4) (k3 x1 x2 x3 x4)) (x1 : Nat) (x2 : Int32) (x3 : Int32) (x4 : Int32) (x6 : Int32) (x7 : Int32) (y0 : Int32) : Sc am id (X9_writeChangesOf_65 K3 (am.1 + 41) (some (aPl am x1)) x2 x3 x4 x6 x7 y0 (some (am.1 + 42))) (C9_writeChangesOf_65 k3 x1 x2 x3 x4 x6 x7 y0) := by
  unfold X9_writeChangesOf_65 C9_writeChangesOf_65
  refine sc_Xc ?_
  refine sc_Xc ?_
  refine sc_wc (q := (13, 0)) (k := id) (fun _ => rfl) rfl (fun _ => ⟨_, rfl⟩) (u_X9_writeSign x2) fun _ => ?_
  refine sc_gR (q := (13, 0)) (b := (am.1 + 42)) (fun _ => rfl) rfl (fun _ => ⟨_, rfl, rfl⟩) ?_
  refine sc_Xi ?_
  exact u_X9_writeChangesOf_90 _ hk3 x1 x2 x3 x4 x7
theorem u_X9_writeChangesOf_3_st {am : AM} {k3 : Nat → Int32 → Int32 → Int32 → CM Unit} (K3 : Nat → Option Nat → Int32 → Int32 → Int32 → MM Unit) (hk3 : ∀ (x1 : Nat) (x2 : Int32) (x3 : Int32) (x4 : Int32), Sc am id (K3 (am.1 + 41) (some (aPl am x1)) x2 x3 x4) (k3 x1 x2 x3 x4)) (x1 : Nat) (x2 : Int32) (x3 : Int32) (x4 : Int32) : Sc am id (X9_writeChangesOf_3_st  K3 (am.1 + 41) (some (aPl am x1)) x2 x3 x4) (C9_writeChangesOf_3_st  k3 x1 x2 x3 x4) := by
  unfold X9_writeChangesOf_3_st C9_writeChangesOf_3_st
  refine sc_wcd (q := (2, x1)) (k := id) rfl (fun _ => ⟨_, rfl⟩) (u_X6_sizeOf x1 x2) fun v1 => ?_
  refine sc_ite ?_ ?_
  · exact sc_ret
  · refine sc_wcd (q := (2, x1)) (k := id) rfl (fun _ => ⟨_, rfl⟩) (u_X6_slotOf x1 x2 x4) fun v2 => ?_
    refine sc_wcd (q := (2, x1)) (k := id) rfl (fun _ => ⟨_, rfl⟩) (u_X6_fateOf x1 v2) fun v3 => ?_
    refine sc_wcd (q := (2, x1)) (k := id) rfl (fun _ => ⟨_, rfl⟩) (u_X6_insertedAt x1 v2) fun v4 => ?_
    refine sc_ite ?_ ?_
    · exact u_X9_writeChangesOf_90 _ hk3 x1 x2 x3 x4 v4
    · refine sc_gR (q := (13, 0)) (b := (am.1 + 42)) (fun _ => rfl) rfl (fun _ => ⟨_, rfl, rfl⟩) ?_
      refine sc_gR (q := (13, 0)) (b := (am.1 + 42)) (fun _ => rfl) rfl (fun _ => ⟨_, rfl, rfl⟩) ?_
      refine sc_Xl fun v5 => ?_
      refine sc_ite ?_ ?_
      · exact u_X9_writeChangesOf_65 _ hk3 x1 x2 x3 x4 v3 v4 (40 : Int32)
      · exact u_X9_writeChangesOf_65 _ hk3 x1 x2 x3 x4 v3 v4 (44 : Int32)
theorem u_X9_writeChangesOf_3 {am : AM} : ∀ (n : Nat) (x1 : Nat) (x2 : Int32) (x3 : Int32) (x4 : Int32), Sc am id (X9_writeChangesOf_3  n (am.1 + 41) (some (aPl am x1)) x2 x3 x4) (C9_writeChangesOf_3  n x1 x2 x3 x4) := by
  intro n
  induction n with
  | zero => intro x1 x2 x3 x4; exact sc_mf
  | succ n ih => intro x1 x2 x3 x4; exact u_X9_writeChangesOf_3_st  _ ih x1 x2 x3 x4
theorem u_X9_writeChangesOf {am : AM} (a1 : Nat) (a2 : Int32) (a3 : Int32) : Sc am id (X9_writeChangesOf (am.1 + 41) (some (aPl am a1)) a2 a3) (C9_writeChangesOf a1 a2 a3) := by
  unfold X9_writeChangesOf C9_writeChangesOf
  exact u_X9_writeChangesOf_3  LFU a1 a2 a3 (1 : Int32)
def C9_writeGroup_101  (x4 : Int32) : CM Unit :=
  cb cXl fun v1 =>
  if v1 ≤ x4 then (cr ()) else (cb (cXc (41 : Int32)) fun _ =>
  cr ())
def C9_writeGroup_76_st  (k76 : Nat → Int32 → Int32 → Int32 → CM Unit) (x1 : Nat) (x3 : Int32) (x4 : Int32) (x5 : Int32) : CM Unit :=
  if x3 < x5 then ((C9_writeGroup_101  x4)) else (cb (cE (2, x1)) fun _ =>
  cb (C6_signOf x1 x5) fun v1 =>
  cb (C9_writeChangesOf x1 v1 x4) fun _ =>
  (k76 x1 x3 x4 (x5 + (1 : Int32))))
def C9_writeGroup_76  : Nat → Nat → Int32 → Int32 → Int32 → CM Unit
  | 0 => fun _ _ _ _ => cf
  | n + 1 => fun x1 x3 x4 x5 => C9_writeGroup_76_st  (C9_writeGroup_76  n) x1 x3 x4 x5
def C9_writeGroup_47  (x1 : Nat) (x2 : Int32) (x3 : Int32) : CM Unit :=
  cb (cE (2, x1)) fun _ =>
  cb (C6_signOf x1 x3) fun v1 =>
  cb (cE (2, x1)) fun _ =>
  cb (C6_sizeOf x1 v1) fun v2 =>
  cb (cXi v2) fun _ =>
  cb cXl fun v3 =>
  (C9_writeGroup_76  LFU x1 x3 v3 x2)
def C9_writeGroup_14  (x1 : Nat) (x2 : Int32) (x3 : Int32) : CM Unit :=
  cb (cE (2, x1)) fun _ =>
  cb (C6_signOf x1 x2) fun v1 =>
  cb (C9_writeSign v1) fun _ =>
  if x3 ≤ x2 then ((C9_writeGroup_47  x1 x2 x3)) else (cb (cXc (45 : Int32)) fun _ =>
  cb (cE (2, x1)) fun _ =>
  cb (C6_signOf x1 x3) fun v2 =>
  cb (C9_writeSign v2) fun _ =>
  (C9_writeGroup_47  x1 x2 x3))
def C9_writeGroup (a1 : Nat) (a2 : Int32) (a3 : Int32) : CM Unit :=
  if a2 ≤ 0 then ((C9_writeGroup_14  a1 a2 a3)) else (cb (cXc (32 : Int32)) fun _ =>
  (C9_writeGroup_14  a1 a2 a3))
theorem u_X9_writeGroup_101 {am : AM} (x4 : Int32) : Sc am id (X9_writeGroup_101  (am.1 + 41) x4) (C9_writeGroup_101  x4) := by
  unfold X9_writeGroup_101 C9_writeGroup_101
  refine sc_gR (q := (13, 0)) (b := (am.1 + 42)) (fun _ => rfl) rfl (fun _ => ⟨_, rfl, rfl⟩) ?_
  refine sc_Xl fun v1 => ?_
  refine sc_ite ?_ ?_
  · exact sc_ret
  · refine sc_gR (q := (13, 0)) (b := (am.1 + 42)) (fun _ => rfl) rfl (fun _ => ⟨_, rfl, rfl⟩) ?_
    refine sc_Xc ?_
    exact sc_ret
theorem u_X9_writeGroup_76_st {am : AM} {k76 : Nat → Int32 → Int32 → Int32 → CM Unit} (K76 : Nat → Option Nat → Int32 → Int32 → Int32 → MM Unit) (hk76 : ∀ (x1 : Nat) (x3 : Int32) (x4 : Int32) (x5 : Int32), Sc am id (K76 (am.1 + 41) (some (aPl am x1)) x3 x4 x5) (k76 x1 x3 x4 x5)) (x1 : Nat) (x3 : Int32) (x4 : Int32) (x5 : Int32) : Sc am id (X9_writeGroup_76_st  K76 (am.1 + 41) (some (aPl am x1)) x3 x4 x5) (C9_writeGroup_76_st  k76 x1 x3 x4 x5) := by
  unfold X9_writeGroup_76_st C9_writeGroup_76_st
  refine sc_ite ?_ ?_
  · exact u_X9_writeGroup_101  x4
  · refine sc_wcd (q := (2, x1)) (k := id) rfl (fun _ => ⟨_, rfl⟩) (u_X6_signOf x1 x5) fun v1 => ?_
    refine sc_wc (q := (13, 0)) (k := id) (fun _ => rfl) rfl (fun _ => ⟨_, rfl⟩) (u_X9_writeChangesOf x1 v1 x4) fun _ => ?_
    exact hk76 x1 x3 x4 (x5 + (1 : Int32))
theorem u_X9_writeGroup_76 {am : AM} : ∀ (n : Nat) (x1 : Nat) (x3 : Int32) (x4 : Int32) (x5 : Int32), Sc am id (X9_writeGroup_76  n (am.1 + 41) (some (aPl am x1)) x3 x4 x5) (C9_writeGroup_76  n x1 x3 x4 x5) := by
  intro n
  induction n with
  | zero => intro x1 x3 x4 x5; exact sc_mf
  | succ n ih => intro x1 x3 x4 x5; exact u_X9_writeGroup_76_st  _ ih x1 x3 x4 x5
theorem u_X9_writeGroup_47 {am : AM} (x1 : Nat) (x2 : Int32) (x3 : Int32) : Sc am id (X9_writeGroup_47  (am.1 + 41) (some (aPl am x1)) x2 x3) (C9_writeGroup_47  x1 x2 x3) := by
  unfold X9_writeGroup_47 C9_writeGroup_47
  refine sc_gR (q := (13, 0)) (b := (am.1 + 42)) (fun _ => rfl) rfl (fun _ => ⟨_, rfl, rfl⟩) ?_
  refine sc_wcd (q := (2, x1)) (k := id) rfl (fun _ => ⟨_, rfl⟩) (u_X6_signOf x1 x3) fun v1 => ?_
  refine sc_wcd (q := (2, x1)) (k := id) rfl (fun _ => ⟨_, rfl⟩) (u_X6_sizeOf x1 v1) fun v2 => ?_
  refine sc_Xi ?_
  refine sc_gR (q := (13, 0)) (b := (am.1 + 42)) (fun _ => rfl) rfl (fun _ => ⟨_, rfl, rfl⟩) ?_
  refine sc_Xl fun v3 => ?_
  exact u_X9_writeGroup_76  LFU x1 x3 v3 x2
theorem u_X9_writeGroup_14 {am : AM} (x1 : Nat) (x2 : Int32) (x3 : Int32) : Sc am id (X9_writeGroup_14  (am.1 + 41) (some (aPl am x1)) x2 x3) (C9_writeGroup_14  x1 x2 x3) := by
  unfold X9_writeGroup_14 C9_writeGroup_14
  refine sc_wcd (q := (2, x1)) (k := id) rfl (fun _ => ⟨_, rfl⟩) (u_X6_signOf x1 x2) fun v1 => ?_
  refine sc_wc (q := (13, 0)) (k := id) (fun _ => rfl) rfl (fun _ => ⟨_, rfl⟩) (u_X9_writeSign v1) fun _ => ?_
  refine sc_ite ?_ ?_
  · exact u_X9_writeGroup_47  x1 x2 x3
  · refine sc_gR (q := (13, 0)) (b := (am.1 + 42)) (fun _ => rfl) rfl (fun _ => ⟨_, rfl, rfl⟩) ?_
    refine sc_Xc ?_
    refine sc_wcd (q := (2, x1)) (k := id) rfl (fun _ => ⟨_, rfl⟩) (u_X6_signOf x1 x3) fun v2 => ?_
    refine sc_wc (q := (13, 0)) (k := id) (fun _ => rfl) rfl (fun _ => ⟨_, rfl⟩) (u_X9_writeSign v2) fun _ => ?_
    exact u_X9_writeGroup_47  x1 x2 x3
theorem u_X9_writeGroup {am : AM} (a1 : Nat) (a2 : Int32) (a3 : Int32) : Sc am id (X9_writeGroup (am.1 + 41) (some (aPl am a1)) a2 a3) (C9_writeGroup a1 a2 a3) := by
  unfold X9_writeGroup C9_writeGroup
  refine sc_ite ?_ ?_
  · exact u_X9_writeGroup_14  a1 a2 a3
  · refine sc_gR (q := (13, 0)) (b := (am.1 + 42)) (fun _ => rfl) rfl (fun _ => ⟨_, rfl, rfl⟩) ?_
    refine sc_Xc ?_
    exact u_X9_writeGroup_14  a1 a2 a3
def C6_copyFrom (this : Nat) (a1 : Nat) : CM Unit :=
  cb (cE (2, a1)) fun _ =>
  cb (cE (2, this)) fun _ =>
  cb (cCp 3 a1 3 this (71 : Int32)) fun _ =>
  cb (cE (2, a1)) fun _ =>
  cb (cE (2, this)) fun _ =>
  cb (cCp 4 a1 4 this (71 : Int32)) fun _ =>
  cb (cE (2, a1)) fun _ =>
  cb (cE (2, this)) fun _ =>
  cb (cCp 5 a1 5 this (852 : Int32)) fun _ =>
  cb (cE (2, a1)) fun _ =>
  cb (cE (2, this)) fun _ =>
  cb (cCp 6 a1 6 this (852 : Int32)) fun _ =>
  cb (cG 6 a1) fun v1 =>
  cb (cP 6 this v1) fun _ =>
  cb (cG 7 a1) fun v2 =>
  cb (cP 7 this v2) fun _ =>
  cr ()
theorem u_X6_copyFrom {am : AM} (this : Nat) (a1 : Nat) : Sc am id (X6_copyFrom (aPl am this) (some (aPl am a1))) (C6_copyFrom this a1) := by
  unfold X6_copyFrom C6_copyFrom
  refine sc_gRd (q := (2, a1)) (b := (aAr am 3 a1)) rfl (fun _ => ⟨_, rfl, rfl⟩) ?_
  refine sc_gRd (q := (2, this)) (b := (aAr am 3 this)) rfl (fun _ => ⟨_, rfl, rfl⟩) ?_
  refine sc_cp (t := 3) (i := a1) (t2 := 3) (i2 := this) ?_
  refine sc_gRd (q := (2, a1)) (b := (aAr am 4 a1)) rfl (fun _ => ⟨_, rfl, rfl⟩) ?_
  refine sc_gRd (q := (2, this)) (b := (aAr am 4 this)) rfl (fun _ => ⟨_, rfl, rfl⟩) ?_
  refine sc_cp (t := 4) (i := a1) (t2 := 4) (i2 := this) ?_
  refine sc_gRd (q := (2, a1)) (b := (aAr am 5 a1)) rfl (fun _ => ⟨_, rfl, rfl⟩) ?_
  refine sc_gRd (q := (2, this)) (b := (aAr am 5 this)) rfl (fun _ => ⟨_, rfl, rfl⟩) ?_
  refine sc_cp (t := 5) (i := a1) (t2 := 5) (i2 := this) ?_
  refine sc_gRd (q := (2, a1)) (b := (aAr am 6 a1)) rfl (fun _ => ⟨_, rfl, rfl⟩) ?_
  refine sc_gRd (q := (2, this)) (b := (aAr am 6 this)) rfl (fun _ => ⟨_, rfl, rfl⟩) ?_
  refine sc_cp (t := 6) (i := a1) (t2 := 6) (i2 := this) ?_
  refine sc_gI (t := 6) (i := a1) rfl (fun _ => ⟨_, rfl, rfl⟩) fun v1 => ?_
  refine sc_pI (t := 6) (i := this) (by decide) rfl (fun _ => ⟨_, rfl, Nat.le_of_ble_eq_true rfl, celp6⟩) ?_
  refine sc_gI (t := 7) (i := a1) rfl (fun _ => ⟨_, rfl, rfl⟩) fun v2 => ?_
  refine sc_pI (t := 7) (i := this) (by decide) rfl (fun _ => ⟨_, rfl, Nat.le_of_ble_eq_true rfl, celp7⟩) ?_
  exact sc_ret
def C0_leafCount (this : Nat) : CM Int32 :=
  cb (cE (3, this)) fun _ =>
  cb (cG 1 (100 + 4 * this)) fun v1 =>
  cr v1
theorem u_X0_leafCount {am : AM} (this : Nat) : Sc am id (X0_leafCount (aBo am this)) (C0_leafCount this) := by
  unfold X0_leafCount C0_leafCount
  refine sc_gRd (q := (3, this)) (b := (aRo am (100 + 4 * this))) rfl (fun _ => ⟨_, rfl, rfl⟩) ?_
  refine sc_gI (t := 1) (i := (100 + 4 * this)) rfl (fun _ => ⟨_, rfl, rfl⟩) fun v1 => ?_
  exact sc_ret
def C6_isCut (this : Nat) (a1 : Int32) : CM Int32 :=
  cb (cE (2, this)) fun _ =>
  cb (C6_fateOf this a1) fun v1 =>
  if v1 = (45 : Int32) then (cr (1 : Int32)) else (cr (0 : Int32))
theorem u_X6_isCut {am : AM} (this : Nat) (a1 : Int32) : Sc am id (X6_isCut (aPl am this) a1) (C6_isCut this a1) := by
  unfold X6_isCut C6_isCut
  refine sc_wcd (q := (2, this)) (k := id) rfl (fun _ => ⟨_, rfl⟩) (u_X6_fateOf this a1) fun v1 => ?_
  refine sc_ite ?_ ?_
  · exact sc_ret
  · exact sc_ret
def C6_isReplaced (this : Nat) (a1 : Int32) : CM Int32 :=
  cb (cE (2, this)) fun _ =>
  cb (C6_fateOf this a1) fun v1 =>
  if v1 = (61 : Int32) then (cr (1 : Int32)) else (cr (0 : Int32))
theorem u_X6_isReplaced {am : AM} (this : Nat) (a1 : Int32) : Sc am id (X6_isReplaced (aPl am this) a1) (C6_isReplaced this a1) := by
  unfold X6_isReplaced C6_isReplaced
  refine sc_wcd (q := (2, this)) (k := id) rfl (fun _ => ⟨_, rfl⟩) (u_X6_fateOf this a1) fun v1 => ?_
  refine sc_ite ?_ ?_
  · exact sc_ret
  · exact sc_ret
def C0_addLeaf (this : Nat) (a1 : Int32) (a2 : Int32) (a3 : Int32) (a4 : Int32) : CM Unit :=
  cb (cE (3, this)) fun _ =>
  cb (cE (1, (100 + 4 * this))) fun _ =>
  cb (C8_add (100 + 4 * this) a1) fun v1 =>
  cb (cE (3, this)) fun _ =>
  cb (cE (1, (101 + 4 * this))) fun _ =>
  cb (C8_add (101 + 4 * this) a2) fun v2 =>
  cb (cE (3, this)) fun _ =>
  cb (cE (1, (102 + 4 * this))) fun _ =>
  cb (C8_add (102 + 4 * this) a3) fun v3 =>
  cb (cE (3, this)) fun _ =>
  cb (cE (1, (103 + 4 * this))) fun _ =>
  cb (C8_add (103 + 4 * this) a4) fun v4 =>
  cr ()
theorem u_X0_addLeaf {am : AM} (this : Nat) (a1 : Int32) (a2 : Int32) (a3 : Int32) (a4 : Int32) : Sc am id (X0_addLeaf (aBo am this) a1 a2 a3 a4) (C0_addLeaf this a1 a2 a3 a4) := by
  unfold X0_addLeaf C0_addLeaf
  refine sc_gRd (q := (3, this)) (b := (aRo am (100 + 4 * this))) rfl (fun _ => ⟨_, rfl, rfl⟩) ?_
  refine sc_wcd (q := (1, (100 + 4 * this))) (k := id) rfl (fun _ => ⟨_, rfl⟩) (u_X8_add (100 + 4 * this) a1) fun v1 => ?_
  refine sc_gRd (q := (3, this)) (b := (aRo am (101 + 4 * this))) rfl (fun _ => ⟨_, rfl, rfl⟩) ?_
  refine sc_wcd (q := (1, (101 + 4 * this))) (k := id) rfl (fun _ => ⟨_, rfl⟩) (u_X8_add (101 + 4 * this) a2) fun v2 => ?_
  refine sc_gRd (q := (3, this)) (b := (aRo am (102 + 4 * this))) rfl (fun _ => ⟨_, rfl, rfl⟩) ?_
  refine sc_wcd (q := (1, (102 + 4 * this))) (k := id) rfl (fun _ => ⟨_, rfl⟩) (u_X8_add (102 + 4 * this) a3) fun v3 => ?_
  refine sc_gRd (q := (3, this)) (b := (aRo am (103 + 4 * this))) rfl (fun _ => ⟨_, rfl, rfl⟩) ?_
  refine sc_wcd (q := (1, (103 + 4 * this))) (k := id) rfl (fun _ => ⟨_, rfl⟩) (u_X8_add (103 + 4 * this) a4) fun v4 => ?_
  exact sc_ret
def C0_setOut_128 (k11 : Nat → Int32 → Int32 → Int32 → CM Unit) (this : Nat) (x1 : Int32) (x2 : Int32) (x3 : Int32) : CM Unit :=
  (k11 this x1 x2 (x3 + (1 : Int32)))
def C0_setOut_99_st (k11 : Nat → Int32 → Int32 → Int32 → CM Unit) (k99 : Nat → Int32 → Int32 → Int32 → Int32 → Int32 → CM Unit) (this : Nat) (x1 : Int32) (x2 : Int32) (x3 : Int32) (x4 : Int32) (x5 : Int32) : CM Unit :=
  cb (cE (3, this)) fun _ =>
  cb (cE (2, (this + 1))) fun _ =>
  cb (C6_insertedAt (this + 1) x4) fun v1 =>
  if v1 < x5 then ((C0_setOut_128 k11 this x1 x2 x3)) else (cb (cE (3, this)) fun _ =>
  cb (C0_addLeaf this x1 x3 (2 : Int32) x5) fun _ =>
  (k99 this x1 x2 x3 x4 (x5 + (1 : Int32))))
def C0_setOut_99 (k11 : Nat → Int32 → Int32 → Int32 → CM Unit) : Nat → Nat → Int32 → Int32 → Int32 → Int32 → Int32 → CM Unit
  | 0 => fun _ _ _ _ _ _ => cf
  | n + 1 => fun this x1 x2 x3 x4 x5 => C0_setOut_99_st k11 (C0_setOut_99 k11 n) this x1 x2 x3 x4 x5
def C0_setOut_96 (k11 : Nat → Int32 → Int32 → Int32 → CM Unit) (this : Nat) (x1 : Int32) (x2 : Int32) (x3 : Int32) (x4 : Int32) : CM Unit :=
  (C0_setOut_99 k11 LFU this x1 x2 x3 x4 (1 : Int32))
def C0_setOut_92 (k11 : Nat → Int32 → Int32 → Int32 → CM Unit) (this : Nat) (x1 : Int32) (x2 : Int32) (x3 : Int32) (x4 : Int32) (y0 : Int32) (y1 : Int32) (y2 : Int32) : CM Unit :=
  cb (cE (3, this)) fun _ =>
  cb (C0_addLeaf this y2 y1 y0 (0 : Int32)) fun _ =>
  (C0_setOut_96 k11 this x1 x2 x3 x4)
def C0_setOut_60 (k11 : Nat → Int32 → Int32 → Int32 → CM Unit) (this : Nat) (x1 : Int32) (x2 : Int32) (x3 : Int32) (x4 : Int32) : CM Unit :=
  cb (cE (3, this)) fun _ =>
  cb (cE (2, (this + 1))) fun _ =>
  cb (C6_isCut (this + 1) x4) fun v1 =>
  if v1 = 0 then (cb (cE (3, this)) fun _ =>
  cb (cE (2, (this + 1))) fun _ =>
  cb (C6_isReplaced (this + 1) x4) fun v2 =>
  if v2 = 0 then ((C0_setOut_92 k11 this x1 x2 x3 x4 (0 : Int32) x3 x1)) else ((C0_setOut_92 k11 this x1 x2 x3 x4 (1 : Int32) x3 x1))) else ((C0_setOut_96 k11 this x1 x2 x3 x4))
def C0_setOut_11_st  (k11 : Nat → Int32 → Int32 → Int32 → CM Unit) (this : Nat) (x1 : Int32) (x2 : Int32) (x3 : Int32) : CM Unit :=
  cb (cE (3, this)) fun _ =>
  cb (cE (2, (this + 1))) fun _ =>
  cb (C6_sizeOf (this + 1) x2) fun v1 =>
  if v1 < x3 then (cr ()) else (cb (cE (3, this)) fun _ =>
  cb (cE (2, (this + 1))) fun _ =>
  cb (C6_slotOf (this + 1) x2 x3) fun v2 =>
  if v2 < 0 then ((C0_setOut_60 k11 this x1 x2 x3 v2)) else (cb (cE (3, this)) fun _ =>
  cb (cN 7 this) fun v3 =>
  if v3 ≤ v2 then ((C0_setOut_60 k11 this x1 x2 x3 v2)) else (cb (cE (3, this)) fun _ =>
  cb (cE (3, this)) fun _ =>
  cb (C0_leafCount this ) fun v4 =>
  cb (cS 7 this v2 v4) fun _ =>
  (C0_setOut_60 k11 this x1 x2 x3 v2))))
def C0_setOut_11  : Nat → Nat → Int32 → Int32 → Int32 → CM Unit
  | 0 => fun _ _ _ _ => cf
  | n + 1 => fun this x1 x2 x3 => C0_setOut_11_st  (C0_setOut_11  n) this x1 x2 x3
def C0_setOut (this : Nat) (a1 : Int32) : CM Unit :=
  cb (cE (3, this)) fun _ =>
  cb (cE (2, (this + 1))) fun _ =>
  cb (C6_signOf (this + 1) a1) fun v1 =>
  (C0_setOut_11  LFU this a1 v1 (1 : Int32))
theorem u_X0_setOut_128 {am : AM} {k11 : Nat → Int32 → Int32 → Int32 → CM Unit} (K11 : Nat → Int32 → Int32 → Int32 → MM Unit) (hk11 : ∀ (this : Nat) (x1 : Int32) (x2 : Int32) (x3 : Int32), Sc am id (K11 (aBo am this) x1 x2 x3) (k11 this x1 x2 x3)) (this : Nat) (x1 : Int32) (x2 : Int32) (x3 : Int32) : Sc am id (X0_setOut_128 K11 (aBo am this) x1 x2 x3) (C0_setOut_128 k11 this x1 x2 x3) := by
  unfold X0_setOut_128 C0_setOut_128
  exact hk11 this x1 x2 (x3 + (1 : Int32))
theorem u_X0_setOut_99_st {am : AM} {k11 : Nat → Int32 → Int32 → Int32 → CM Unit} (K11 : Nat → Int32 → Int32 → Int32 → MM Unit) (hk11 : ∀ (this : Nat) (x1 : Int32) (x2 : Int32) (x3 : Int32), Sc am id (K11 (aBo am this) x1 x2 x3) (k11 this x1 x2 x3)) {k99 : Nat → Int32 → Int32 → Int32 → Int32 → Int32 → CM Unit} (K99 : Nat → Int32 → Int32 → Int32 → Int32 → Int32 → MM Unit) (hk99 : ∀ (this : Nat) (x1 : Int32) (x2 : Int32) (x3 : Int32) (x4 : Int32) (x5 : Int32), Sc am id (K99 (aBo am this) x1 x2 x3 x4 x5) (k99 this x1 x2 x3 x4 x5)) (this : Nat) (x1 : Int32) (x2 : Int32) (x3 : Int32) (x4 : Int32) (x5 : Int32) : Sc am id (X0_setOut_99_st K11 K99 (aBo am this) x1 x2 x3 x4 x5) (C0_setOut_99_st k11 k99 this x1 x2 x3 x4 x5) := by
  unfold X0_setOut_99_st C0_setOut_99_st
  refine sc_gRd (q := (3, this)) (b := (aPl am (this + 1))) rfl (fun _ => ⟨_, rfl, rfl⟩) ?_
  refine sc_wcd (q := (2, (this + 1))) (k := id) rfl (fun _ => ⟨_, rfl⟩) (u_X6_insertedAt (this + 1) x4) fun v1 => ?_
  refine sc_ite ?_ ?_
  · exact u_X0_setOut_128 _ hk11 this x1 x2 x3
  · refine sc_wcd (q := (3, this)) (k := id) rfl (fun _ => ⟨_, rfl⟩) (u_X0_addLeaf this x1 x3 (2 : Int32) x5) fun _ => ?_
    exact hk99 this x1 x2 x3 x4 (x5 + (1 : Int32))
theorem u_X0_setOut_99 {am : AM} {k11 : Nat → Int32 → Int32 → Int32 → CM Unit} (K11 : Nat → Int32 → Int32 → Int32 → MM Unit) (hk11 : ∀ (this : Nat) (x1 : Int32) (x2 : Int32) (x3 : Int32), Sc am id (K11 (aBo am this) x1 x2 x3) (k11 this x1 x2 x3)) : ∀ (n : Nat) (this : Nat) (x1 : Int32) (x2 : Int32) (x3 : Int32) (x4 : Int32) (x5 : Int32), Sc am id (X0_setOut_99 K11 n (aBo am this) x1 x2 x3 x4 x5) (C0_setOut_99 k11 n this x1 x2 x3 x4 x5) := by
  intro n
  induction n with
  | zero => intro this x1 x2 x3 x4 x5; exact sc_mf
  | succ n ih => intro this x1 x2 x3 x4 x5; exact u_X0_setOut_99_st _ hk11 _ ih this x1 x2 x3 x4 x5
theorem u_X0_setOut_96 {am : AM} {k11 : Nat → Int32 → Int32 → Int32 → CM Unit} (K11 : Nat → Int32 → Int32 → Int32 → MM Unit) (hk11 : ∀ (this : Nat) (x1 : Int32) (x2 : Int32) (x3 : Int32), Sc am id (K11 (aBo am this) x1 x2 x3) (k11 this x1 x2 x3)) (this : Nat) (x1 : Int32) (x2 : Int32) (x3 : Int32) (x4 : Int32) : Sc am id (X0_setOut_96 K11 (aBo am this) x1 x2 x3 x4) (C0_setOut_96 k11 this x1 x2 x3 x4) := by
  unfold X0_setOut_96 C0_setOut_96
  exact u_X0_setOut_99 _ hk11 LFU this x1 x2 x3 x4 (1 : Int32)
theorem u_X0_setOut_92 {am : AM} {k11 : Nat → Int32 → Int32 → Int32 → CM Unit} (K11 : Nat → Int32 → Int32 → Int32 → MM Unit) (hk11 : ∀ (this : Nat) (x1 : Int32) (x2 : Int32) (x3 : Int32), Sc am id (K11 (aBo am this) x1 x2 x3) (k11 this x1 x2 x3)) (this : Nat) (x1 : Int32) (x2 : Int32) (x3 : Int32) (x4 : Int32) (y0 : Int32) (y1 : Int32) (y2 : Int32) : Sc am id (X0_setOut_92 K11 (aBo am this) x1 x2 x3 x4 y0 y1 y2) (C0_setOut_92 k11 this x1 x2 x3 x4 y0 y1 y2) := by
  unfold X0_setOut_92 C0_setOut_92
  refine sc_wcd (q := (3, this)) (k := id) rfl (fun _ => ⟨_, rfl⟩) (u_X0_addLeaf this y2 y1 y0 (0 : Int32)) fun _ => ?_
  exact u_X0_setOut_96 _ hk11 this x1 x2 x3 x4
theorem u_X0_setOut_60 {am : AM} {k11 : Nat → Int32 → Int32 → Int32 → CM Unit} (K11 : Nat → Int32 → Int32 → Int32 → MM Unit) (hk11 : ∀ (this : Nat) (x1 : Int32) (x2 : Int32) (x3 : Int32), Sc am id (K11 (aBo am this) x1 x2 x3) (k11 this x1 x2 x3)) (this : Nat) (x1 : Int32) (x2 : Int32) (x3 : Int32) (x4 : Int32) : Sc am id (X0_setOut_60 K11 (aBo am this) x1 x2 x3 x4) (C0_setOut_60 k11 this x1 x2 x3 x4) := by
  unfold X0_setOut_60 C0_setOut_60
  refine sc_gRd (q := (3, this)) (b := (aPl am (this + 1))) rfl (fun _ => ⟨_, rfl, rfl⟩) ?_
  refine sc_wcd (q := (2, (this + 1))) (k := id) rfl (fun _ => ⟨_, rfl⟩) (u_X6_isCut (this + 1) x4) fun v1 => ?_
  refine sc_ite ?_ ?_
  · refine sc_gRd (q := (3, this)) (b := (aPl am (this + 1))) rfl (fun _ => ⟨_, rfl, rfl⟩) ?_
    refine sc_wcd (q := (2, (this + 1))) (k := id) rfl (fun _ => ⟨_, rfl⟩) (u_X6_isReplaced (this + 1) x4) fun v2 => ?_
    refine sc_ite ?_ ?_
    · exact u_X0_setOut_92 _ hk11 this x1 x2 x3 x4 (0 : Int32) x3 x1
    · exact u_X0_setOut_92 _ hk11 this x1 x2 x3 x4 (1 : Int32) x3 x1
  · exact u_X0_setOut_96 _ hk11 this x1 x2 x3 x4
theorem u_X0_setOut_11_st {am : AM} {k11 : Nat → Int32 → Int32 → Int32 → CM Unit} (K11 : Nat → Int32 → Int32 → Int32 → MM Unit) (hk11 : ∀ (this : Nat) (x1 : Int32) (x2 : Int32) (x3 : Int32), Sc am id (K11 (aBo am this) x1 x2 x3) (k11 this x1 x2 x3)) (this : Nat) (x1 : Int32) (x2 : Int32) (x3 : Int32) : Sc am id (X0_setOut_11_st  K11 (aBo am this) x1 x2 x3) (C0_setOut_11_st  k11 this x1 x2 x3) := by
  unfold X0_setOut_11_st C0_setOut_11_st
  refine sc_gRd (q := (3, this)) (b := (aPl am (this + 1))) rfl (fun _ => ⟨_, rfl, rfl⟩) ?_
  refine sc_wcd (q := (2, (this + 1))) (k := id) rfl (fun _ => ⟨_, rfl⟩) (u_X6_sizeOf (this + 1) x2) fun v1 => ?_
  refine sc_ite ?_ ?_
  · exact sc_ret
  · refine sc_gRd (q := (3, this)) (b := (aPl am (this + 1))) rfl (fun _ => ⟨_, rfl, rfl⟩) ?_
    refine sc_wcd (q := (2, (this + 1))) (k := id) rfl (fun _ => ⟨_, rfl⟩) (u_X6_slotOf (this + 1) x2 x3) fun v2 => ?_
    refine sc_ite ?_ ?_
    · exact u_X0_setOut_60 _ hk11 this x1 x2 x3 v2
    · refine sc_gRd (q := (3, this)) (b := (aAr am 7 this)) rfl (fun _ => ⟨_, rfl, rfl⟩) ?_
      refine sc_aN (t := 7) (i := this) fun v3 => ?_
      refine sc_ite ?_ ?_
      · exact u_X0_setOut_60 _ hk11 this x1 x2 x3 v2
      · refine sc_gRd (q := (3, this)) (b := (aAr am 7 this)) rfl (fun _ => ⟨_, rfl, rfl⟩) ?_
        refine sc_wcd (q := (3, this)) (k := id) rfl (fun _ => ⟨_, rfl⟩) (u_X0_leafCount this ) fun v4 => ?_
        refine sc_sI (t := 7) (i := this) ?_
        exact u_X0_setOut_60 _ hk11 this x1 x2 x3 v2
theorem u_X0_setOut_11 {am : AM} : ∀ (n : Nat) (this : Nat) (x1 : Int32) (x2 : Int32) (x3 : Int32), Sc am id (X0_setOut_11  n (aBo am this) x1 x2 x3) (C0_setOut_11  n this x1 x2 x3) := by
  intro n
  induction n with
  | zero => intro this x1 x2 x3; exact sc_mf
  | succ n ih => intro this x1 x2 x3; exact u_X0_setOut_11_st  _ ih this x1 x2 x3
theorem u_X0_setOut {am : AM} (this : Nat) (a1 : Int32) : Sc am id (X0_setOut (aBo am this) a1) (C0_setOut this a1) := by
  unfold X0_setOut C0_setOut
  refine sc_gRd (q := (3, this)) (b := (aPl am (this + 1))) rfl (fun _ => ⟨_, rfl, rfl⟩) ?_
  refine sc_wcd (q := (2, (this + 1))) (k := id) rfl (fun _ => ⟨_, rfl⟩) (u_X6_signOf (this + 1) a1) fun v1 => ?_
  exact u_X0_setOut_11  LFU this a1 v1 (1 : Int32)
def C0_init_95_st  (k95 : Nat → Int32 → CM Unit) (this : Nat) (x3 : Int32) : CM Unit :=
  cb (cE (3, this)) fun _ =>
  cb (cG 6 (this + 1)) fun v1 =>
  if v1 ≤ x3 then (cr ()) else (cb (cE (3, this)) fun _ =>
  cb (C0_setOut this x3) fun _ =>
  (k95 this (x3 + (1 : Int32))))
def C0_init_95  : Nat → Nat → Int32 → CM Unit
  | 0 => fun _ _ => cf
  | n + 1 => fun this x3 => C0_init_95_st  (C0_init_95  n) this x3
theorem u_X0_init_95_st {am : AM} {k95 : Nat → Int32 → CM Unit} (K95 : Nat → Int32 → MM Unit) (hk95 : ∀ (this : Nat) (x3 : Int32), Sc am id (K95 (aBo am this) x3) (k95 this x3)) (this : Nat) (x3 : Int32) : Sc am id (X0_init_95_st  K95 (aBo am this) x3) (C0_init_95_st  k95 this x3) := by
  unfold X0_init_95_st C0_init_95_st
  refine sc_gRd (q := (3, this)) (b := (aPl am (this + 1))) rfl (fun _ => ⟨_, rfl, rfl⟩) ?_
  refine sc_gI (t := 6) (i := (this + 1)) rfl (fun _ => ⟨_, rfl, rfl⟩) fun v1 => ?_
  refine sc_ite ?_ ?_
  · exact sc_ret
  · refine sc_wcd (q := (3, this)) (k := id) rfl (fun _ => ⟨_, rfl⟩) (u_X0_setOut this x3) fun _ => ?_
    exact hk95 this (x3 + (1 : Int32))
theorem u_X0_init_95 {am : AM} : ∀ (n : Nat) (this : Nat) (x3 : Int32), Sc am id (X0_init_95  n (aBo am this) x3) (C0_init_95  n this x3) := by
  intro n
  induction n with
  | zero => intro this x3; exact sc_mf
  | succ n ih => intro this x3; exact u_X0_init_95_st  _ ih this x3
def C11_bookAt (a1 : Int32) : CM (Option Nat) :=
  if a1 < 0 then (cr none) else (cb (cG 8 0) fun v1 =>
  if v1 ≤ a1 then (cr none) else (if a1 < (8 : Int32) then (cb (cBk a1) fun v2 =>
  cr v2) else (cr none)))
theorem u_X11_bookAt {am : AM} (a1 : Int32) : Sc am (fun v : Option Nat => v.map (aBo am)) (X11_bookAt am.1 a1) (C11_bookAt a1) := by
  unfold X11_bookAt C11_bookAt
  refine sc_ite ?_ ?_
  · exact sc_ret (a := none)
  · refine sc_gI (t := 8) (i := 0) rfl (fun _ => ⟨_, rfl, rfl⟩) fun v1 => ?_
    refine sc_ite ?_ ?_
    · exact sc_ret (a := none)
    · refine sc_gR (q := (5, 0)) (b := (am.1 + 44)) (fun _ => rfl) rfl (fun _ => ⟨_, rfl, rfl⟩) ?_
      refine sc_aNB ?_
      refine sc_ite ?_ ?_
      · refine sc_gR (q := (5, 0)) (b := (am.1 + 44)) (fun _ => rfl) rfl (fun _ => ⟨_, rfl, rfl⟩) ?_
        refine sc_aRB fun v2 => ?_
        exact sc_ret (a := v2)
      · exact sc_ret (a := none)
def C7_readsChanges  : CM Int32 :=
  cb (C7_begin ) fun _ =>
  cb (C7_readsChangeList ) fun v1 =>
  if v1 = 0 then (cr (0 : Int32)) else (cb (C7_takes (0 : Int32)) fun v2 =>
  if v2 = 0 then (cr (0 : Int32)) else (cr (1 : Int32)))
theorem u_X7_readsChanges {am : AM}  : Sc am id (X7_readsChanges (am.1 + 9)) (C7_readsChanges ) := by
  unfold X7_readsChanges C7_readsChanges
  refine sc_wc (q := (7, 0)) (k := id) (fun _ => rfl) rfl (fun _ => ⟨_, rfl⟩) (u_X7_begin ) fun _ => ?_
  refine sc_wc (q := (7, 0)) (k := id) (fun _ => rfl) rfl (fun _ => ⟨_, rfl⟩) (u_X7_readsChangeList ) fun v1 => ?_
  refine sc_ite ?_ ?_
  · exact sc_ret
  · refine sc_wc (q := (7, 0)) (k := id) (fun _ => rfl) rfl (fun _ => ⟨_, rfl⟩) (u_X7_takes (0 : Int32)) fun v2 => ?_
    refine sc_ite ?_ ?_
    · exact sc_ret
    · exact sc_ret
def C11_draftChanges (a1 : Nat) : CM Int32 :=
  cb (cE (3, a1)) fun _ =>
  cb (cE (2, 0)) fun _ =>
  cb (C6_copyFrom 0 (a1 + 1)) fun _ =>
  cb (C5_amount ) fun v1 =>
  cb (C3_ofChanges (0 : Int32) v1 0) fun v2 =>
  cb (cP 10 0 v2) fun _ =>
  cb (C11_refusalOfDraft ) fun v3 =>
  cr v3
theorem u_X11_draftChanges {am : AM} (a1 : Nat) : Sc am id (X11_draftChanges am.1 (some (aBo am a1))) (C11_draftChanges a1) := by
  unfold X11_draftChanges C11_draftChanges
  refine sc_gR (q := (5, 0)) (b := (aPl am 0)) (fun _ => rfl) rfl (fun _ => ⟨_, rfl, rfl⟩) ?_
  refine sc_gRd (q := (3, a1)) (b := (aPl am (a1 + 1))) rfl (fun _ => ⟨_, rfl, rfl⟩) ?_
  refine sc_wcd (q := (2, 0)) (k := id) rfl (fun _ => ⟨_, rfl⟩) (u_X6_copyFrom 0 (a1 + 1)) fun _ => ?_
  refine sc_gR (q := (5, 0)) (b := (am.1 + 9)) (fun _ => rfl) rfl (fun _ => ⟨_, rfl, rfl⟩) ?_
  refine sc_gR (q := (7, 0)) (b := (am.1 + 21)) (fun _ => rfl) rfl (fun _ => ⟨_, rfl, rfl⟩) ?_
  refine sc_gR (q := (5, 0)) (b := (am.1 + 9)) (fun _ => rfl) rfl (fun _ => ⟨_, rfl, rfl⟩) ?_
  refine sc_gR (q := (7, 0)) (b := (am.1 + 21)) (fun _ => rfl) rfl (fun _ => ⟨_, rfl, rfl⟩) ?_
  refine sc_wc (q := (9, 0)) (k := id) (fun _ => rfl) rfl (fun _ => ⟨_, rfl⟩) (u_X5_amount ) fun v1 => ?_
  refine sc_gR (q := (5, 0)) (b := (aPl am 0)) (fun _ => rfl) rfl (fun _ => ⟨_, rfl, rfl⟩) ?_
  refine sc_cal (k := id) (u_X3_ofChanges (0 : Int32) v1 0) fun v2 => ?_
  refine sc_pI (t := 10) (i := 0) (by decide) rfl (fun _ => ⟨_, rfl, Nat.le_of_ble_eq_true rfl, celp10⟩) ?_
  refine sc_wc (q := (5, 0)) (k := id) (fun _ => rfl) rfl (fun _ => ⟨_, rfl⟩) (u_X11_refusalOfDraft ) fun v3 => ?_
  exact sc_ret
def C7_readsOneName_90  (x1 : Int32) (y0 : Int32) (y1 : Nat) : CM Int32 :=
  cb (cE (1, y1)) fun _ =>
  cb (C8_add y1 y0) fun v1 =>
  cb (cE (1, 8)) fun _ =>
  cb (C8_add 8 x1) fun v2 =>
  cr (1 : Int32)
def C7_readsOneName_71  (x1 : Int32) (x2 : Int32) : CM Int32 :=
  if x2 = 0 then ((C7_readsOneName_90  x1 (-1 : Int32) 11)) else (cb (cG 4 0) fun v1 =>
  (C7_readsOneName_90  x1 v1 11))
def C7_readsOneName (a1 : Int32) : CM Int32 :=
  cb (C7_takes (1 : Int32)) fun v1 =>
  if v1 = 0 then (cr (0 : Int32)) else (cb (cG 4 0) fun v2 =>
  cb (cE (1, 9)) fun _ =>
  cb (C8_add 9 v2) fun v3 =>
  cb (C7_takes (2 : Int32)) fun v4 =>
  if v4 = 0 then (cr (0 : Int32)) else (cb (cG 4 0) fun v5 =>
  cb (cE (1, 10)) fun _ =>
  cb (C8_add 10 v5) fun v6 =>
  cb (C7_skips (43 : Int32)) fun v7 =>
  if v7 = 0 then ((C7_readsOneName_71  a1 v7)) else (cb (C7_takes (2 : Int32)) fun v8 =>
  if v8 = 0 then (cr (0 : Int32)) else ((C7_readsOneName_71  a1 v7)))))
theorem u_X7_readsOneName_90 {am : AM} (x1 : Int32) (y0 : Int32) (y1 : Nat) : Sc am id (X7_readsOneName_90  (am.1 + 9) x1 y0 (some (aRo am y1))) (C7_readsOneName_90  x1 y0 y1) := by
  unfold X7_readsOneName_90 C7_readsOneName_90
  refine sc_wcd (q := (1, y1)) (k := id) rfl (fun _ => ⟨_, rfl⟩) (u_X8_add y1 y0) fun v1 => ?_
  refine sc_gR (q := (7, 0)) (b := (am.1 + 21)) (fun _ => rfl) rfl (fun _ => ⟨_, rfl, rfl⟩) ?_
  refine sc_gR (q := (9, 0)) (b := (aRo am 8)) (fun _ => rfl) rfl (fun _ => ⟨_, rfl, rfl⟩) ?_
  refine sc_wcd (q := (1, 8)) (k := id) rfl (fun _ => ⟨_, rfl⟩) (u_X8_add 8 x1) fun v2 => ?_
  exact sc_ret
theorem u_X7_readsOneName_71 {am : AM} (x1 : Int32) (x2 : Int32) : Sc am id (X7_readsOneName_71  (am.1 + 9) x1 x2) (C7_readsOneName_71  x1 x2) := by
  unfold X7_readsOneName_71 C7_readsOneName_71
  refine sc_gR (q := (7, 0)) (b := (am.1 + 21)) (fun _ => rfl) rfl (fun _ => ⟨_, rfl, rfl⟩) ?_
  refine sc_gR (q := (9, 0)) (b := (aRo am 11)) (fun _ => rfl) rfl (fun _ => ⟨_, rfl, rfl⟩) ?_
  refine sc_ite ?_ ?_
  · exact u_X7_readsOneName_90  x1 (-1 : Int32) 11
  · refine sc_gI (t := 4) (i := 0) rfl (fun _ => ⟨_, rfl, rfl⟩) fun v1 => ?_
    exact u_X7_readsOneName_90  x1 v1 11
theorem u_X7_readsOneName {am : AM} (a1 : Int32) : Sc am id (X7_readsOneName (am.1 + 9) a1) (C7_readsOneName a1) := by
  unfold X7_readsOneName C7_readsOneName
  refine sc_wc (q := (7, 0)) (k := id) (fun _ => rfl) rfl (fun _ => ⟨_, rfl⟩) (u_X7_takes (1 : Int32)) fun v1 => ?_
  refine sc_ite ?_ ?_
  · exact sc_ret
  · refine sc_gR (q := (7, 0)) (b := (am.1 + 21)) (fun _ => rfl) rfl (fun _ => ⟨_, rfl, rfl⟩) ?_
    refine sc_gR (q := (9, 0)) (b := (aRo am 9)) (fun _ => rfl) rfl (fun _ => ⟨_, rfl, rfl⟩) ?_
    refine sc_gI (t := 4) (i := 0) rfl (fun _ => ⟨_, rfl, rfl⟩) fun v2 => ?_
    refine sc_wcd (q := (1, 9)) (k := id) rfl (fun _ => ⟨_, rfl⟩) (u_X8_add 9 v2) fun v3 => ?_
    refine sc_wc (q := (7, 0)) (k := id) (fun _ => rfl) rfl (fun _ => ⟨_, rfl⟩) (u_X7_takes (2 : Int32)) fun v4 => ?_
    refine sc_ite ?_ ?_
    · exact sc_ret
    · refine sc_gR (q := (7, 0)) (b := (am.1 + 21)) (fun _ => rfl) rfl (fun _ => ⟨_, rfl, rfl⟩) ?_
      refine sc_gR (q := (9, 0)) (b := (aRo am 10)) (fun _ => rfl) rfl (fun _ => ⟨_, rfl, rfl⟩) ?_
      refine sc_gI (t := 4) (i := 0) rfl (fun _ => ⟨_, rfl, rfl⟩) fun v5 => ?_
      refine sc_wcd (q := (1, 10)) (k := id) rfl (fun _ => ⟨_, rfl⟩) (u_X8_add 10 v5) fun v6 => ?_
      refine sc_wc (q := (7, 0)) (k := id) (fun _ => rfl) rfl (fun _ => ⟨_, rfl⟩) (u_X7_skips (43 : Int32)) fun v7 => ?_
      refine sc_ite ?_ ?_
      · exact u_X7_readsOneName_71  a1 v7
      · refine sc_wc (q := (7, 0)) (k := id) (fun _ => rfl) rfl (fun _ => ⟨_, rfl⟩) (u_X7_takes (2 : Int32)) fun v8 => ?_
        refine sc_ite ?_ ?_
        · exact sc_ret
        · exact u_X7_readsOneName_71  a1 v7
def C7_readsRow_40 (k6 : Int32 → CM Int32) (x1 : Int32) : CM Int32 :=
  cb (C7_skips (0 : Int32)) fun v1 =>
  if v1 = 0 then ((k6 (x1 + (1 : Int32)))) else (cr (1 : Int32))
def C7_readsRow_6_st  (k6 : Int32 → CM Int32) (x1 : Int32) : CM Int32 :=
  if (121 : Int32) ≤ x1 then (cr (0 : Int32)) else (cb (C7_readsOneName (0 : Int32)) fun v1 =>
  if v1 = 0 then (cr (0 : Int32)) else (cb (C7_skips (45 : Int32)) fun v2 =>
  if v2 = 0 then ((C7_readsRow_40 k6 x1)) else (cb (C7_readsOneName (45 : Int32)) fun v3 =>
  if v3 = 0 then (cr (0 : Int32)) else ((C7_readsRow_40 k6 x1)))))
def C7_readsRow_6  : Nat → Int32 → CM Int32
  | 0 => fun _ => cf
  | n + 1 => fun x1 => C7_readsRow_6_st  (C7_readsRow_6  n) x1
def C7_readsRow  : CM Int32 :=
  cb (C7_begin ) fun _ =>
  (C7_readsRow_6  LFU (0 : Int32))
theorem u_X7_readsRow_40 {am : AM} {k6 : Int32 → CM Int32} (K6 : Nat → Int32 → MM Int32) (hk6 : ∀ (x1 : Int32), Sc am id (K6 (am.1 + 9) x1) (k6 x1)) (x1 : Int32) : Sc am id (X7_readsRow_40 K6 (am.1 + 9) x1) (C7_readsRow_40 k6 x1) := by
  unfold X7_readsRow_40 C7_readsRow_40
  refine sc_wc (q := (7, 0)) (k := id) (fun _ => rfl) rfl (fun _ => ⟨_, rfl⟩) (u_X7_skips (0 : Int32)) fun v1 => ?_
  refine sc_ite ?_ ?_
  · exact hk6 (x1 + (1 : Int32))
  · exact sc_ret
theorem u_X7_readsRow_6_st {am : AM} {k6 : Int32 → CM Int32} (K6 : Nat → Int32 → MM Int32) (hk6 : ∀ (x1 : Int32), Sc am id (K6 (am.1 + 9) x1) (k6 x1)) (x1 : Int32) : Sc am id (X7_readsRow_6_st  K6 (am.1 + 9) x1) (C7_readsRow_6_st  k6 x1) := by
  unfold X7_readsRow_6_st C7_readsRow_6_st
  refine sc_ite ?_ ?_
  · exact sc_ret
  · refine sc_wc (q := (7, 0)) (k := id) (fun _ => rfl) rfl (fun _ => ⟨_, rfl⟩) (u_X7_readsOneName (0 : Int32)) fun v1 => ?_
    refine sc_ite ?_ ?_
    · exact sc_ret
    · refine sc_wc (q := (7, 0)) (k := id) (fun _ => rfl) rfl (fun _ => ⟨_, rfl⟩) (u_X7_skips (45 : Int32)) fun v2 => ?_
      refine sc_ite ?_ ?_
      · exact u_X7_readsRow_40 _ hk6 x1
      · refine sc_wc (q := (7, 0)) (k := id) (fun _ => rfl) rfl (fun _ => ⟨_, rfl⟩) (u_X7_readsOneName (45 : Int32)) fun v3 => ?_
        refine sc_ite ?_ ?_
        · exact sc_ret
        · exact u_X7_readsRow_40 _ hk6 x1
theorem u_X7_readsRow_6 {am : AM} : ∀ (n : Nat) (x1 : Int32), Sc am id (X7_readsRow_6  n (am.1 + 9) x1) (C7_readsRow_6  n x1) := by
  intro n
  induction n with
  | zero => intro x1; exact sc_mf
  | succ n ih => intro x1; exact u_X7_readsRow_6_st  _ ih x1
theorem u_X7_readsRow {am : AM}  : Sc am id (X7_readsRow (am.1 + 9)) (C7_readsRow ) := by
  unfold X7_readsRow C7_readsRow
  refine sc_wc (q := (7, 0)) (k := id) (fun _ => rfl) rfl (fun _ => ⟨_, rfl⟩) (u_X7_begin ) fun _ => ?_
  exact u_X7_readsRow_6  LFU (0 : Int32)
def C0_placeOfSlot (this : Nat) (a1 : Int32) (a2 : Int32) : CM Int32 :=
  if a1 < 0 then (cr (-1 : Int32)) else (cb (cE (3, this)) fun _ =>
  cb (cN 7 this) fun v1 =>
  if a1 < v1 then (cb (cE (3, this)) fun _ =>
  cb (cA 7 this a1) fun v2 =>
  cb (cE (3, this)) fun _ =>
  cb (cE (2, (this + 1))) fun _ =>
  cb (C6_isCut (this + 1) a1) fun v3 =>
  if a2 = (-1 : Int32) then (if v3 = 0 then (cr v2) else (cr (-1 : Int32))) else (if a2 < (1 : Int32) then (cr (-1 : Int32)) else (cb (cE (3, this)) fun _ =>
  cb (cE (2, (this + 1))) fun _ =>
  cb (C6_insertedAt (this + 1) a1) fun v4 =>
  if a2 ≤ v4 then (if v3 = 0 then (cr ((v2 + a2) - (0 : Int32))) else (cr ((v2 + a2) - (1 : Int32)))) else (cr (-1 : Int32))))) else (cr (-1 : Int32)))
theorem u_X0_placeOfSlot {am : AM} (this : Nat) (a1 : Int32) (a2 : Int32) : Sc am id (X0_placeOfSlot (aBo am this) a1 a2) (C0_placeOfSlot this a1 a2) := by
  unfold X0_placeOfSlot C0_placeOfSlot
  refine sc_ite ?_ ?_
  · exact sc_ret
  · refine sc_gRd (q := (3, this)) (b := (aAr am 7 this)) rfl (fun _ => ⟨_, rfl, rfl⟩) ?_
    refine sc_aN (t := 7) (i := this) fun v1 => ?_
    refine sc_ite ?_ ?_
    · refine sc_gRd (q := (3, this)) (b := (aAr am 7 this)) rfl (fun _ => ⟨_, rfl, rfl⟩) ?_
      refine sc_aI (t := 7) (i := this) fun v2 => ?_
      refine sc_gRd (q := (3, this)) (b := (aPl am (this + 1))) rfl (fun _ => ⟨_, rfl, rfl⟩) ?_
      refine sc_wcd (q := (2, (this + 1))) (k := id) rfl (fun _ => ⟨_, rfl⟩) (u_X6_isCut (this + 1) a1) fun v3 => ?_
      refine sc_ite ?_ ?_
      · refine sc_ite ?_ ?_
        · exact sc_ret
        · exact sc_ret
      · refine sc_ite ?_ ?_
        · exact sc_ret
        · refine sc_gRd (q := (3, this)) (b := (aPl am (this + 1))) rfl (fun _ => ⟨_, rfl, rfl⟩) ?_
          refine sc_wcd (q := (2, (this + 1))) (k := id) rfl (fun _ => ⟨_, rfl⟩) (u_X6_insertedAt (this + 1) a1) fun v4 => ?_
          refine sc_ite ?_ ?_
          · refine sc_ite ?_ ?_
            · exact sc_ret
            · exact sc_ret
          · exact sc_ret
    · exact sc_ret
def C0_placeOf (this : Nat) (a2 : Int32) : CM Int32 :=
  cb (cE (3, this)) fun _ =>
  cb (cE (1, 9)) fun _ =>
  cb (C8_get 9 a2) fun v1 =>
  cb (cE (1, 10)) fun _ =>
  cb (C8_get 10 a2) fun v2 =>
  cb (cE (2, (this + 1))) fun _ =>
  cb (C6_slotOf (this + 1) v1 v2) fun v3 =>
  cb (cE (1, 11)) fun _ =>
  cb (C8_get 11 a2) fun v4 =>
  cb (cE (3, this)) fun _ =>
  cb (C0_placeOfSlot this v3 v4) fun v5 =>
  cr v5
theorem u_X0_placeOf {am : AM} (this : Nat) (a2 : Int32) : Sc am id (X0_placeOf (aBo am this) (some (am.1 + 21)) a2) (C0_placeOf this a2) := by
  unfold X0_placeOf C0_placeOf
  refine sc_gRd (q := (3, this)) (b := (aPl am (this + 1))) rfl (fun _ => ⟨_, rfl, rfl⟩) ?_
  refine sc_gR (q := (9, 0)) (b := (aRo am 9)) (fun _ => rfl) rfl (fun _ => ⟨_, rfl, rfl⟩) ?_
  refine sc_wcd (q := (1, 9)) (k := id) rfl (fun _ => ⟨_, rfl⟩) (u_X8_get 9 a2) fun v1 => ?_
  refine sc_gR (q := (9, 0)) (b := (aRo am 10)) (fun _ => rfl) rfl (fun _ => ⟨_, rfl, rfl⟩) ?_
  refine sc_wcd (q := (1, 10)) (k := id) rfl (fun _ => ⟨_, rfl⟩) (u_X8_get 10 a2) fun v2 => ?_
  refine sc_wcd (q := (2, (this + 1))) (k := id) rfl (fun _ => ⟨_, rfl⟩) (u_X6_slotOf (this + 1) v1 v2) fun v3 => ?_
  refine sc_gR (q := (9, 0)) (b := (aRo am 11)) (fun _ => rfl) rfl (fun _ => ⟨_, rfl, rfl⟩) ?_
  refine sc_wcd (q := (1, 11)) (k := id) rfl (fun _ => ⟨_, rfl⟩) (u_X8_get 11 a2) fun v4 => ?_
  refine sc_wcd (q := (3, this)) (k := id) rfl (fun _ => ⟨_, rfl⟩) (u_X0_placeOfSlot this v3 v4) fun v5 => ?_
  exact sc_ret
def C5_isJoined (a1 : Int32) : CM Int32 :=
  cb (cE (1, 8)) fun _ =>
  cb (C8_get 8 a1) fun v1 =>
  if v1 = (45 : Int32) then (cr (1 : Int32)) else (cr (0 : Int32))
theorem u_X5_isJoined {am : AM} (a1 : Int32) : Sc am id (X5_isJoined (am.1 + 21) a1) (C5_isJoined a1) := by
  unfold X5_isJoined C5_isJoined
  refine sc_gR (q := (9, 0)) (b := (aRo am 8)) (fun _ => rfl) rfl (fun _ => ⟨_, rfl, rfl⟩) ?_
  refine sc_wcd (q := (1, 8)) (k := id) rfl (fun _ => ⟨_, rfl⟩) (u_X8_get 8 a1) fun v1 => ?_
  refine sc_ite ?_ ?_
  · exact sc_ret
  · exact sc_ret
def C3_ofRow_45 (k2 : Nat → Int32 → CM Int32) (x1 : Nat) (x2 : Int32) : CM Int32 :=
  (k2 x1 (x2 + (1 : Int32)))
def C3_ofRow_2_st  (k2 : Nat → Int32 → CM Int32) (x1 : Nat) (x2 : Int32) : CM Int32 :=
  cb (C5_amount ) fun v1 =>
  if v1 ≤ x2 then (cr (0 : Int32)) else (cb (cE (3, x1)) fun _ =>
  cb (C0_placeOf x1 x2) fun v2 =>
  if v2 = (-1 : Int32) then (cr (7 : Int32)) else (cb (C5_isJoined x2) fun v3 =>
  if v3 = 0 then ((C3_ofRow_45 k2 x1 x2)) else (cb (cE (3, x1)) fun _ =>
  cb (C0_placeOf x1 (x2 - (1 : Int32))) fun v4 =>
  if v4 < v2 then ((C3_ofRow_45 k2 x1 x2)) else (cr (7 : Int32)))))
def C3_ofRow_2  : Nat → Nat → Int32 → CM Int32
  | 0 => fun _ _ => cf
  | n + 1 => fun x1 x2 => C3_ofRow_2_st  (C3_ofRow_2  n) x1 x2
def C3_ofRow (a1 : Nat) : CM Int32 :=
  (C3_ofRow_2  LFU a1 (0 : Int32))
theorem u_X3_ofRow_45 {am : AM} {k2 : Nat → Int32 → CM Int32} (K2 : Option Nat → Option Nat → Int32 → MM Int32) (hk2 : ∀ (x1 : Nat) (x2 : Int32), Sc am id (K2 (some (am.1 + 21)) (some (aBo am x1)) x2) (k2 x1 x2)) (x1 : Nat) (x2 : Int32) : Sc am id (X3_ofRow_45 K2 (some (am.1 + 21)) (some (aBo am x1)) x2) (C3_ofRow_45 k2 x1 x2) := by
  unfold X3_ofRow_45 C3_ofRow_45
  exact hk2 x1 (x2 + (1 : Int32))
theorem u_X3_ofRow_2_st {am : AM} {k2 : Nat → Int32 → CM Int32} (K2 : Option Nat → Option Nat → Int32 → MM Int32) (hk2 : ∀ (x1 : Nat) (x2 : Int32), Sc am id (K2 (some (am.1 + 21)) (some (aBo am x1)) x2) (k2 x1 x2)) (x1 : Nat) (x2 : Int32) : Sc am id (X3_ofRow_2_st  K2 (some (am.1 + 21)) (some (aBo am x1)) x2) (C3_ofRow_2_st  k2 x1 x2) := by
  unfold X3_ofRow_2_st C3_ofRow_2_st
  refine sc_wc (q := (9, 0)) (k := id) (fun _ => rfl) rfl (fun _ => ⟨_, rfl⟩) (u_X5_amount ) fun v1 => ?_
  refine sc_ite ?_ ?_
  · exact sc_ret
  · refine sc_wcd (q := (3, x1)) (k := id) rfl (fun _ => ⟨_, rfl⟩) (u_X0_placeOf x1 x2) fun v2 => ?_
    refine sc_ite ?_ ?_
    · exact sc_ret
    · refine sc_wc (q := (9, 0)) (k := id) (fun _ => rfl) rfl (fun _ => ⟨_, rfl⟩) (u_X5_isJoined x2) fun v3 => ?_
      refine sc_ite ?_ ?_
      · exact u_X3_ofRow_45 _ hk2 x1 x2
      · refine sc_wcd (q := (3, x1)) (k := id) rfl (fun _ => ⟨_, rfl⟩) (u_X0_placeOf x1 (x2 - (1 : Int32))) fun v4 => ?_
        refine sc_ite ?_ ?_
        · exact u_X3_ofRow_45 _ hk2 x1 x2
        · exact sc_ret
theorem u_X3_ofRow_2 {am : AM} : ∀ (n : Nat) (x1 : Nat) (x2 : Int32), Sc am id (X3_ofRow_2  n (some (am.1 + 21)) (some (aBo am x1)) x2) (C3_ofRow_2  n x1 x2) := by
  intro n
  induction n with
  | zero => intro x1 x2; exact sc_mf
  | succ n ih => intro x1 x2; exact u_X3_ofRow_2_st  _ ih x1 x2
theorem u_X3_ofRow {am : AM} (a1 : Nat) : Sc am id (X3_ofRow (some (am.1 + 21)) (some (aBo am a1))) (C3_ofRow a1) := by
  unfold X3_ofRow C3_ofRow
  exact u_X3_ofRow_2  LFU a1 (0 : Int32)
def C0_listsEntries_75 (k6 : Nat → Nat → Int32 → CM Int32) (this : Nat) (x2 : Nat) (x3 : Int32) : CM Int32 :=
  (k6 this x2 (x3 + (1 : Int32)))
def C0_listsEntries_51_st (k6 : Nat → Nat → Int32 → CM Int32) (k51 : Nat → Nat → Int32 → Int32 → Int32 → CM Int32) (this : Nat) (x2 : Nat) (x3 : Int32) (x4 : Int32) (x6 : Int32) : CM Int32 :=
  if x4 < x6 then ((C0_listsEntries_75 k6 this x2 x3)) else (cb (cE (1, x2)) fun _ =>
  cb (C8_add x2 x6) fun v1 =>
  if v1 = 0 then (cr (0 : Int32)) else ((k51 this x2 x3 x4 (x6 + (1 : Int32)))))
def C0_listsEntries_51 (k6 : Nat → Nat → Int32 → CM Int32) : Nat → Nat → Nat → Int32 → Int32 → Int32 → CM Int32
  | 0 => fun _ _ _ _ _ => cf
  | n + 1 => fun this x2 x3 x4 x6 => C0_listsEntries_51_st k6 (C0_listsEntries_51 k6 n) this x2 x3 x4 x6
def C0_listsEntries_45 (k6 : Nat → Nat → Int32 → CM Int32) (this : Nat) (x2 : Nat) (x3 : Int32) (x4 : Int32) (y0 : Int32) : CM Int32 :=
  (C0_listsEntries_51 k6 LFU this x2 x3 x4 y0)
def C0_listsEntries_6_st  (k6 : Nat → Nat → Int32 → CM Int32) (this : Nat) (x2 : Nat) (x3 : Int32) : CM Int32 :=
  cb (C5_amount ) fun v1 =>
  if v1 ≤ x3 then (cr (1 : Int32)) else (cb (cE (3, this)) fun _ =>
  cb (C0_placeOf this x3) fun v2 =>
  cb (C5_isJoined x3) fun v3 =>
  if v3 = 0 then ((C0_listsEntries_45 k6 this x2 x3 v2 v2)) else (cb (cE (3, this)) fun _ =>
  cb (C0_placeOf this (x3 - (1 : Int32))) fun v4 =>
  (C0_listsEntries_45 k6 this x2 x3 v2 (v4 + (1 : Int32)))))
def C0_listsEntries_6  : Nat → Nat → Nat → Int32 → CM Int32
  | 0 => fun _ _ _ => cf
  | n + 1 => fun this x2 x3 => C0_listsEntries_6_st  (C0_listsEntries_6  n) this x2 x3
def C0_listsEntries (this : Nat) (a2 : Nat) : CM Int32 :=
  cb (cE (1, a2)) fun _ =>
  cb (C8_clear a2 ) fun _ =>
  (C0_listsEntries_6  LFU this a2 (0 : Int32))
theorem u_X0_listsEntries_75 {am : AM} {k6 : Nat → Nat → Int32 → CM Int32} (K6 : Nat → Option Nat → Option Nat → Int32 → MM Int32) (hk6 : ∀ (this : Nat) (x2 : Nat) (x3 : Int32), Sc am id (K6 (aBo am this) (some (am.1 + 21)) (some (aRo am x2)) x3) (k6 this x2 x3)) (this : Nat) (x2 : Nat) (x3 : Int32) : Sc am id (X0_listsEntries_75 K6 (aBo am this) (some (am.1 + 21)) (some (aRo am x2)) x3) (C0_listsEntries_75 k6 this x2 x3) := by
  unfold X0_listsEntries_75 C0_listsEntries_75
  exact hk6 this x2 (x3 + (1 : Int32))
theorem u_X0_listsEntries_51_st {am : AM} {k6 : Nat → Nat → Int32 → CM Int32} (K6 : Nat → Option Nat → Option Nat → Int32 → MM Int32) (hk6 : ∀ (this : Nat) (x2 : Nat) (x3 : Int32), Sc am id (K6 (aBo am this) (some (am.1 + 21)) (some (aRo am x2)) x3) (k6 this x2 x3)) {k51 : Nat → Nat → Int32 → Int32 → Int32 → CM Int32} (K51 : Nat → Option Nat → Option Nat → Int32 → Int32 → Int32 → MM Int32) (hk51 : ∀ (this : Nat) (x2 : Nat) (x3 : Int32) (x4 : Int32) (x6 : Int32), Sc am id (K51 (aBo am this) (some (am.1 + 21)) (some (aRo am x2)) x3 x4 x6) (k51 this x2 x3 x4 x6)) (this : Nat) (x2 : Nat) (x3 : Int32) (x4 : Int32) (x6 : Int32) : Sc am id (X0_listsEntries_51_st K6 K51 (aBo am this) (some (am.1 + 21)) (some (aRo am x2)) x3 x4 x6) (C0_listsEntries_51_st k6 k51 this x2 x3 x4 x6) := by
  unfold X0_listsEntries_51_st C0_listsEntries_51_st
  refine sc_ite ?_ ?_
  · exact u_X0_listsEntries_75 _ hk6 this x2 x3
  · refine sc_wcd (q := (1, x2)) (k := id) rfl (fun _ => ⟨_, rfl⟩) (u_X8_add x2 x6) fun v1 => ?_
    refine sc_ite ?_ ?_
    · exact sc_ret
    · exact hk51 this x2 x3 x4 (x6 + (1 : Int32))
theorem u_X0_listsEntries_51 {am : AM} {k6 : Nat → Nat → Int32 → CM Int32} (K6 : Nat → Option Nat → Option Nat → Int32 → MM Int32) (hk6 : ∀ (this : Nat) (x2 : Nat) (x3 : Int32), Sc am id (K6 (aBo am this) (some (am.1 + 21)) (some (aRo am x2)) x3) (k6 this x2 x3)) : ∀ (n : Nat) (this : Nat) (x2 : Nat) (x3 : Int32) (x4 : Int32) (x6 : Int32), Sc am id (X0_listsEntries_51 K6 n (aBo am this) (some (am.1 + 21)) (some (aRo am x2)) x3 x4 x6) (C0_listsEntries_51 k6 n this x2 x3 x4 x6) := by
  intro n
  induction n with
  | zero => intro this x2 x3 x4 x6; exact sc_mf
  | succ n ih => intro this x2 x3 x4 x6; exact u_X0_listsEntries_51_st _ hk6 _ ih this x2 x3 x4 x6
theorem u_X0_listsEntries_45 {am : AM} {k6 : Nat → Nat → Int32 → CM Int32} (K6 : Nat → Option Nat → Option Nat → Int32 → MM Int32) (hk6 : ∀ (this : Nat) (x2 : Nat) (x3 : Int32), Sc am id (K6 (aBo am this) (some (am.1 + 21)) (some (aRo am x2)) x3) (k6 this x2 x3)) (this : Nat) (x2 : Nat) (x3 : Int32) (x4 : Int32) (y0 : Int32) : Sc am id (X0_listsEntries_45 K6 (aBo am this) (some (am.1 + 21)) (some (aRo am x2)) x3 x4 y0) (C0_listsEntries_45 k6 this x2 x3 x4 y0) := by
  unfold X0_listsEntries_45 C0_listsEntries_45
  exact u_X0_listsEntries_51 _ hk6 LFU this x2 x3 x4 y0
theorem u_X0_listsEntries_6_st {am : AM} {k6 : Nat → Nat → Int32 → CM Int32} (K6 : Nat → Option Nat → Option Nat → Int32 → MM Int32) (hk6 : ∀ (this : Nat) (x2 : Nat) (x3 : Int32), Sc am id (K6 (aBo am this) (some (am.1 + 21)) (some (aRo am x2)) x3) (k6 this x2 x3)) (this : Nat) (x2 : Nat) (x3 : Int32) : Sc am id (X0_listsEntries_6_st  K6 (aBo am this) (some (am.1 + 21)) (some (aRo am x2)) x3) (C0_listsEntries_6_st  k6 this x2 x3) := by
  unfold X0_listsEntries_6_st C0_listsEntries_6_st
  refine sc_wc (q := (9, 0)) (k := id) (fun _ => rfl) rfl (fun _ => ⟨_, rfl⟩) (u_X5_amount ) fun v1 => ?_
  refine sc_ite ?_ ?_
  · exact sc_ret
  · refine sc_wcd (q := (3, this)) (k := id) rfl (fun _ => ⟨_, rfl⟩) (u_X0_placeOf this x3) fun v2 => ?_
    refine sc_wc (q := (9, 0)) (k := id) (fun _ => rfl) rfl (fun _ => ⟨_, rfl⟩) (u_X5_isJoined x3) fun v3 => ?_
    refine sc_ite ?_ ?_
    · exact u_X0_listsEntries_45 _ hk6 this x2 x3 v2 v2
    · refine sc_wcd (q := (3, this)) (k := id) rfl (fun _ => ⟨_, rfl⟩) (u_X0_placeOf this (x3 - (1 : Int32))) fun v4 => ?_
      exact u_X0_listsEntries_45 _ hk6 this x2 x3 v2 (v4 + (1 : Int32))
theorem u_X0_listsEntries_6 {am : AM} : ∀ (n : Nat) (this : Nat) (x2 : Nat) (x3 : Int32), Sc am id (X0_listsEntries_6  n (aBo am this) (some (am.1 + 21)) (some (aRo am x2)) x3) (C0_listsEntries_6  n this x2 x3) := by
  intro n
  induction n with
  | zero => intro this x2 x3; exact sc_mf
  | succ n ih => intro this x2 x3; exact u_X0_listsEntries_6_st  _ ih this x2 x3
theorem u_X0_listsEntries {am : AM} (this : Nat) (a2 : Nat) : Sc am id (X0_listsEntries (aBo am this) (some (am.1 + 21)) (some (aRo am a2))) (C0_listsEntries this a2) := by
  unfold X0_listsEntries C0_listsEntries
  refine sc_wcd (q := (1, a2)) (k := id) rfl (fun _ => ⟨_, rfl⟩) (u_X8_clear a2 ) fun _ => ?_
  exact u_X0_listsEntries_6  LFU this a2 (0 : Int32)
def C11_draftRow (a1 : Nat) : CM Int32 :=
  cb (C3_ofRow a1) fun v1 =>
  cb (cP 10 0 v1) fun _ =>
  cb (cG 10 0) fun v2 =>
  if v2 = 0 then (cb (cE (3, a1)) fun _ =>
  cb (C0_listsEntries a1 12) fun v3 =>
  if v3 = 0 then (cr (9 : Int32)) else (cr (0 : Int32))) else (cr (4 : Int32))
theorem u_X11_draftRow {am : AM} (a1 : Nat) : Sc am id (X11_draftRow am.1 (some (aBo am a1))) (C11_draftRow a1) := by
  unfold X11_draftRow C11_draftRow
  refine sc_gR (q := (5, 0)) (b := (am.1 + 9)) (fun _ => rfl) rfl (fun _ => ⟨_, rfl, rfl⟩) ?_
  refine sc_gR (q := (7, 0)) (b := (am.1 + 21)) (fun _ => rfl) rfl (fun _ => ⟨_, rfl, rfl⟩) ?_
  refine sc_cal (k := id) (u_X3_ofRow a1) fun v1 => ?_
  refine sc_pI (t := 10) (i := 0) (by decide) rfl (fun _ => ⟨_, rfl, Nat.le_of_ble_eq_true rfl, celp10⟩) ?_
  refine sc_gI (t := 10) (i := 0) rfl (fun _ => ⟨_, rfl, rfl⟩) fun v2 => ?_
  refine sc_ite ?_ ?_
  · refine sc_gR (q := (5, 0)) (b := (am.1 + 9)) (fun _ => rfl) rfl (fun _ => ⟨_, rfl, rfl⟩) ?_
    refine sc_gR (q := (7, 0)) (b := (am.1 + 21)) (fun _ => rfl) rfl (fun _ => ⟨_, rfl, rfl⟩) ?_
    refine sc_gR (q := (5, 0)) (b := (aRo am 12)) (fun _ => rfl) rfl (fun _ => ⟨_, rfl, rfl⟩) ?_
    refine sc_wcd (q := (3, a1)) (k := id) rfl (fun _ => ⟨_, rfl⟩) (u_X0_listsEntries a1 12) fun v3 => ?_
    refine sc_ite ?_ ?_
    · exact sc_ret
    · exact sc_ret
  · exact sc_ret
def C8_copyFrom_6_st  (k6 : Nat → Nat → Int32 → CM Unit) (this : Nat) (x1 : Nat) (x2 : Int32) : CM Unit :=
  cb (cG 1 x1) fun v1 =>
  if v1 ≤ x2 then (cr ()) else (cb (cE (1, x1)) fun _ =>
  cb (C8_get x1 x2) fun v2 =>
  cb (cE (1, this)) fun _ =>
  cb (C8_add this v2) fun v3 =>
  (k6 this x1 (x2 + (1 : Int32))))
def C8_copyFrom_6  : Nat → Nat → Nat → Int32 → CM Unit
  | 0 => fun _ _ _ => cf
  | n + 1 => fun this x1 x2 => C8_copyFrom_6_st  (C8_copyFrom_6  n) this x1 x2
def C8_copyFrom (this : Nat) (a1 : Nat) : CM Unit :=
  cb (cE (1, this)) fun _ =>
  cb (C8_clear this ) fun _ =>
  (C8_copyFrom_6  LFU this a1 (0 : Int32))
theorem u_X8_copyFrom_6_st {am : AM} {k6 : Nat → Nat → Int32 → CM Unit} (K6 : Nat → Option Nat → Int32 → MM Unit) (hk6 : ∀ (this : Nat) (x1 : Nat) (x2 : Int32), Sc am id (K6 (aRo am this) (some (aRo am x1)) x2) (k6 this x1 x2)) (this : Nat) (x1 : Nat) (x2 : Int32) : Sc am id (X8_copyFrom_6_st  K6 (aRo am this) (some (aRo am x1)) x2) (C8_copyFrom_6_st  k6 this x1 x2) := by
  unfold X8_copyFrom_6_st C8_copyFrom_6_st
  refine sc_gI (t := 1) (i := x1) rfl (fun _ => ⟨_, rfl, rfl⟩) fun v1 => ?_
  refine sc_ite ?_ ?_
  · exact sc_ret
  · refine sc_wcd (q := (1, x1)) (k := id) rfl (fun _ => ⟨_, rfl⟩) (u_X8_get x1 x2) fun v2 => ?_
    refine sc_wcd (q := (1, this)) (k := id) rfl (fun _ => ⟨_, rfl⟩) (u_X8_add this v2) fun v3 => ?_
    exact hk6 this x1 (x2 + (1 : Int32))
theorem u_X8_copyFrom_6 {am : AM} : ∀ (n : Nat) (this : Nat) (x1 : Nat) (x2 : Int32), Sc am id (X8_copyFrom_6  n (aRo am this) (some (aRo am x1)) x2) (C8_copyFrom_6  n this x1 x2) := by
  intro n
  induction n with
  | zero => intro this x1 x2; exact sc_mf
  | succ n ih => intro this x1 x2; exact u_X8_copyFrom_6_st  _ ih this x1 x2
theorem u_X8_copyFrom {am : AM} (this : Nat) (a1 : Nat) : Sc am id (X8_copyFrom (aRo am this) (some (aRo am a1))) (C8_copyFrom this a1) := by
  unfold X8_copyFrom C8_copyFrom
  refine sc_wcd (q := (1, this)) (k := id) rfl (fun _ => ⟨_, rfl⟩) (u_X8_clear this ) fun _ => ?_
  exact u_X8_copyFrom_6  LFU this a1 (0 : Int32)
def C1_markAt (a1 : Int32) : CM Int32 :=
  if a1 < 0 then (cr (0 : Int32)) else (cb (cN 8 0) fun v1 =>
  if a1 < v1 then (cb (cA 8 0 a1) fun v2 =>
  cr v2) else (cr (0 : Int32)))
theorem u_X1_markAt {am : AM} (a1 : Int32) : Sc am id (X1_markAt (am.1 + 37) a1) (C1_markAt a1) := by
  unfold X1_markAt C1_markAt
  refine sc_ite ?_ ?_
  · exact sc_ret
  · refine sc_gR (q := (10, 0)) (b := (aAr am 8 0)) (fun _ => rfl) rfl (fun _ => ⟨_, rfl, rfl⟩) ?_
    refine sc_aN (t := 8) (i := 0) fun v1 => ?_
    refine sc_ite ?_ ?_
    · refine sc_gR (q := (10, 0)) (b := (aAr am 8 0)) (fun _ => rfl) rfl (fun _ => ⟨_, rfl, rfl⟩) ?_
      refine sc_aI (t := 8) (i := 0) fun v2 => ?_
      exact sc_ret
    · exact sc_ret
def C1_setMark (a1 : Int32) (a2 : Int32) : CM Unit :=
  if a1 < 0 then (cr ()) else (cb (cN 8 0) fun v1 =>
  if v1 ≤ a1 then (cr ()) else (cb (cS 8 0 a1 a2) fun _ =>
  cr ()))
theorem u_X1_setMark {am : AM} (a1 : Int32) (a2 : Int32) : Sc am id (X1_setMark (am.1 + 37) a1 a2) (C1_setMark a1 a2) := by
  unfold X1_setMark C1_setMark
  refine sc_ite ?_ ?_
  · exact sc_ret
  · refine sc_gR (q := (10, 0)) (b := (aAr am 8 0)) (fun _ => rfl) rfl (fun _ => ⟨_, rfl, rfl⟩) ?_
    refine sc_aN (t := 8) (i := 0) fun v1 => ?_
    refine sc_ite ?_ ?_
    · exact sc_ret
    · refine sc_gR (q := (10, 0)) (b := (aAr am 8 0)) (fun _ => rfl) rfl (fun _ => ⟨_, rfl, rfl⟩) ?_
      refine sc_sI (t := 8) (i := 0) ?_
      exact sc_ret
def C1_countEntries_10_st  (k10 : Nat → Int32 → CM Unit) (x1 : Nat) (x2 : Int32) : CM Unit :=
  cb (cG 1 x1) fun v1 =>
  if v1 ≤ x2 then (cr ()) else (cb (cE (1, x1)) fun _ =>
  cb (C8_get x1 x2) fun v2 =>
  cb (C1_markAt v2) fun v3 =>
  cb (C1_setMark v2 (v3 + (1 : Int32))) fun _ =>
  (k10 x1 (x2 + (1 : Int32))))
def C1_countEntries_10  : Nat → Nat → Int32 → CM Unit
  | 0 => fun _ _ => cf
  | n + 1 => fun x1 x2 => C1_countEntries_10_st  (C1_countEntries_10  n) x1 x2
def C1_countEntries (a1 : Nat) : CM Unit :=
  cb (cFi 8 0 false (0 : Int32)) fun _ =>
  (C1_countEntries_10  LFU a1 (0 : Int32))
theorem u_X1_countEntries_10_st {am : AM} {k10 : Nat → Int32 → CM Unit} (K10 : Nat → Option Nat → Int32 → MM Unit) (hk10 : ∀ (x1 : Nat) (x2 : Int32), Sc am id (K10 (am.1 + 37) (some (aRo am x1)) x2) (k10 x1 x2)) (x1 : Nat) (x2 : Int32) : Sc am id (X1_countEntries_10_st  K10 (am.1 + 37) (some (aRo am x1)) x2) (C1_countEntries_10_st  k10 x1 x2) := by
  unfold X1_countEntries_10_st C1_countEntries_10_st
  refine sc_gI (t := 1) (i := x1) rfl (fun _ => ⟨_, rfl, rfl⟩) fun v1 => ?_
  refine sc_ite ?_ ?_
  · exact sc_ret
  · refine sc_wcd (q := (1, x1)) (k := id) rfl (fun _ => ⟨_, rfl⟩) (u_X8_get x1 x2) fun v2 => ?_
    refine sc_wc (q := (10, 0)) (k := id) (fun _ => rfl) rfl (fun _ => ⟨_, rfl⟩) (u_X1_markAt v2) fun v3 => ?_
    refine sc_wc (q := (10, 0)) (k := id) (fun _ => rfl) rfl (fun _ => ⟨_, rfl⟩) (u_X1_setMark v2 (v3 + (1 : Int32))) fun _ => ?_
    exact hk10 x1 (x2 + (1 : Int32))
theorem u_X1_countEntries_10 {am : AM} : ∀ (n : Nat) (x1 : Nat) (x2 : Int32), Sc am id (X1_countEntries_10  n (am.1 + 37) (some (aRo am x1)) x2) (C1_countEntries_10  n x1 x2) := by
  intro n
  induction n with
  | zero => intro x1 x2; exact sc_mf
  | succ n ih => intro x1 x2; exact u_X1_countEntries_10_st  _ ih x1 x2
theorem u_X1_countEntries {am : AM} (a1 : Nat) : Sc am id (X1_countEntries (am.1 + 37) (some (aRo am a1))) (C1_countEntries a1) := by
  unfold X1_countEntries C1_countEntries
  refine sc_gR (q := (10, 0)) (b := (aAr am 8 0)) (fun _ => rfl) rfl (fun _ => ⟨_, rfl, rfl⟩) ?_
  refine sc_fiI (t := 8) (i := 0) ?_
  exact u_X1_countEntries_10  LFU a1 (0 : Int32)
def C0_signAt (this : Nat) (a1 : Int32) : CM Int32 :=
  cb (cE (3, this)) fun _ =>
  cb (cE (3, this)) fun _ =>
  cb (cE (1, (100 + 4 * this))) fun _ =>
  cb (C8_get (100 + 4 * this) a1) fun v1 =>
  cb (cE (2, (this + 1))) fun _ =>
  cb (C6_signOf (this + 1) v1) fun v2 =>
  cr v2
theorem u_X0_signAt {am : AM} (this : Nat) (a1 : Int32) : Sc am id (X0_signAt (aBo am this) a1) (C0_signAt this a1) := by
  unfold X0_signAt C0_signAt
  refine sc_gRd (q := (3, this)) (b := (aPl am (this + 1))) rfl (fun _ => ⟨_, rfl, rfl⟩) ?_
  refine sc_gRd (q := (3, this)) (b := (aRo am (100 + 4 * this))) rfl (fun _ => ⟨_, rfl, rfl⟩) ?_
  refine sc_wcd (q := (1, (100 + 4 * this))) (k := id) rfl (fun _ => ⟨_, rfl⟩) (u_X8_get (100 + 4 * this) a1) fun v1 => ?_
  refine sc_wcd (q := (2, (this + 1))) (k := id) rfl (fun _ => ⟨_, rfl⟩) (u_X6_signOf (this + 1) v1) fun v2 => ?_
  exact sc_ret
def C0_conjugateOf (this : Nat) (a1 : Int32) : CM Int32 :=
  cb (cE (3, this)) fun _ =>
  cb (C0_signAt this a1) fun v1 =>
  cb (cE (3, this)) fun _ =>
  cb (cE (1, (101 + 4 * this))) fun _ =>
  cb (C8_get (101 + 4 * this) a1) fun v2 =>
  cb (cE (3, this)) fun _ =>
  cb (cE (2, (this + 1))) fun _ =>
  cb (C6_sizeOf (this + 1) v1) fun v3 =>
  cb (cE (3, this)) fun _ =>
  cb (cE (2, (this + 1))) fun _ =>
  cb (C6_slotOf (this + 1) v1 ((v3 + (1 : Int32)) - v2)) fun v4 =>
  cb (cE (3, this)) fun _ =>
  cb (cE (1, (102 + 4 * this))) fun _ =>
  cb (C8_get (102 + 4 * this) a1) fun v5 =>
  if v5 = 0 then (if ((v3 + (1 : Int32)) - v2) = v2 then (cr (-1 : Int32)) else (cb (cE (3, this)) fun _ =>
  cb (cE (2, (this + 1))) fun _ =>
  cb (C6_fateOf (this + 1) v4) fun v6 =>
  if v6 = 0 then (cb (cE (3, this)) fun _ =>
  cb (C0_placeOfSlot this v4 (-1 : Int32)) fun v7 =>
  cr v7) else (cr (-1 : Int32)))) else (cr (-1 : Int32))
theorem u_X0_conjugateOf {am : AM} (this : Nat) (a1 : Int32) : Sc am id (X0_conjugateOf (aBo am this) a1) (C0_conjugateOf this a1) := by
  unfold X0_conjugateOf C0_conjugateOf
  refine sc_wcd (q := (3, this)) (k := id) rfl (fun _ => ⟨_, rfl⟩) (u_X0_signAt this a1) fun v1 => ?_
  refine sc_gRd (q := (3, this)) (b := (aRo am (101 + 4 * this))) rfl (fun _ => ⟨_, rfl, rfl⟩) ?_
  refine sc_wcd (q := (1, (101 + 4 * this))) (k := id) rfl (fun _ => ⟨_, rfl⟩) (u_X8_get (101 + 4 * this) a1) fun v2 => ?_
  refine sc_gRd (q := (3, this)) (b := (aPl am (this + 1))) rfl (fun _ => ⟨_, rfl, rfl⟩) ?_
  refine sc_wcd (q := (2, (this + 1))) (k := id) rfl (fun _ => ⟨_, rfl⟩) (u_X6_sizeOf (this + 1) v1) fun v3 => ?_
  refine sc_gRd (q := (3, this)) (b := (aPl am (this + 1))) rfl (fun _ => ⟨_, rfl, rfl⟩) ?_
  refine sc_wcd (q := (2, (this + 1))) (k := id) rfl (fun _ => ⟨_, rfl⟩) (u_X6_slotOf (this + 1) v1 ((v3 + (1 : Int32)) - v2)) fun v4 => ?_
  refine sc_gRd (q := (3, this)) (b := (aRo am (102 + 4 * this))) rfl (fun _ => ⟨_, rfl, rfl⟩) ?_
  refine sc_wcd (q := (1, (102 + 4 * this))) (k := id) rfl (fun _ => ⟨_, rfl⟩) (u_X8_get (102 + 4 * this) a1) fun v5 => ?_
  refine sc_ite ?_ ?_
  · refine sc_ite ?_ ?_
    · exact sc_ret
    · refine sc_gRd (q := (3, this)) (b := (aPl am (this + 1))) rfl (fun _ => ⟨_, rfl, rfl⟩) ?_
      refine sc_wcd (q := (2, (this + 1))) (k := id) rfl (fun _ => ⟨_, rfl⟩) (u_X6_fateOf (this + 1) v4) fun v6 => ?_
      refine sc_ite ?_ ?_
      · refine sc_wcd (q := (3, this)) (k := id) rfl (fun _ => ⟨_, rfl⟩) (u_X0_placeOfSlot this v4 (-1 : Int32)) fun v7 => ?_
        exact sc_ret
      · exact sc_ret
  · exact sc_ret
def C1_measureReach_83 (k17 : Nat → Int32 → Int32 → CM Int32) (x1 : Nat) (x2 : Int32) (x3 : Int32) (x5 : Int32) : CM Int32 :=
  cb (cS 9 0 x3 (x5 + (1 : Int32))) fun _ =>
  (k17 x1 (if x2 < (x5 + (1 : Int32)) then (x5 + (1 : Int32)) else x2) (x3 + (-1 : Int32)))
def C1_measureReach_64 (k17 : Nat → Int32 → Int32 → CM Int32) (x1 : Nat) (x2 : Int32) (x3 : Int32) (x4 : Int32) (x5 : Int32) : CM Int32 :=
  cb (cN 10 0) fun v1 =>
  if v1 ≤ x5 then ((C1_measureReach_83 k17 x1 x2 x3 x5)) else (cb (cS 10 0 x5 x4) fun _ =>
  (C1_measureReach_83 k17 x1 x2 x3 x5))
def C1_measureReach_39_st (k17 : Nat → Int32 → Int32 → CM Int32) (k39 : Nat → Int32 → Int32 → Int32 → Int32 → CM Int32) (x1 : Nat) (x2 : Int32) (x3 : Int32) (x4 : Int32) (x5 : Int32) : CM Int32 :=
  if x5 ≤ 0 then ((C1_measureReach_64 k17 x1 x2 x3 x4 x5)) else (cb (cA 10 0 (x5 - (1 : Int32))) fun v1 =>
  if x4 < v1 then ((C1_measureReach_64 k17 x1 x2 x3 x4 x5)) else ((k39 x1 x2 x3 x4 (x5 + (-1 : Int32)))))
def C1_measureReach_39 (k17 : Nat → Int32 → Int32 → CM Int32) : Nat → Nat → Int32 → Int32 → Int32 → Int32 → CM Int32
  | 0 => fun _ _ _ _ _ => cf
  | n + 1 => fun x1 x2 x3 x4 x5 => C1_measureReach_39_st k17 (C1_measureReach_39 k17 n) x1 x2 x3 x4 x5
def C1_measureReach_17_st  (k17 : Nat → Int32 → Int32 → CM Int32) (x1 : Nat) (x2 : Int32) (x3 : Int32) : CM Int32 :=
  if x3 < 0 then (cr x2) else (cb (cE (1, x1)) fun _ =>
  cb (C8_get x1 x3) fun v1 =>
  cb (cN 10 0) fun v2 =>
  (C1_measureReach_39 k17 LFU x1 x2 x3 v1 (if v2 < x2 then v2 else x2)))
def C1_measureReach_17  : Nat → Nat → Int32 → Int32 → CM Int32
  | 0 => fun _ _ _ => cf
  | n + 1 => fun x1 x2 x3 => C1_measureReach_17_st  (C1_measureReach_17  n) x1 x2 x3
def C1_measureReach (a1 : Nat) : CM Int32 :=
  cb (cG 1 a1) fun v1 =>
  cb (cN 9 0) fun v2 =>
  (C1_measureReach_17  LFU a1 (0 : Int32) ((if v2 < v1 then v2 else v1) - (1 : Int32)))
theorem u_X1_measureReach_83 {am : AM} {k17 : Nat → Int32 → Int32 → CM Int32} (K17 : Nat → Option Nat → Int32 → Int32 → MM Int32) (hk17 : ∀ (x1 : Nat) (x2 : Int32) (x3 : Int32), Sc am id (K17 (am.1 + 37) (some (aRo am x1)) x2 x3) (k17 x1 x2 x3)) (x1 : Nat) (x2 : Int32) (x3 : Int32) (x5 : Int32) : Sc am id (X1_measureReach_83 K17 (am.1 + 37) (some (aRo am x1)) x2 x3 x5) (C1_measureReach_83 k17 x1 x2 x3 x5) := by
  unfold X1_measureReach_83 C1_measureReach_83
  refine sc_gR (q := (10, 0)) (b := (aAr am 9 0)) (fun _ => rfl) rfl (fun _ => ⟨_, rfl, rfl⟩) ?_
  refine sc_sI (t := 9) (i := 0) ?_
  exact hk17 x1 (if x2 < (x5 + (1 : Int32)) then (x5 + (1 : Int32)) else x2) (x3 + (-1 : Int32))
theorem u_X1_measureReach_64 {am : AM} {k17 : Nat → Int32 → Int32 → CM Int32} (K17 : Nat → Option Nat → Int32 → Int32 → MM Int32) (hk17 : ∀ (x1 : Nat) (x2 : Int32) (x3 : Int32), Sc am id (K17 (am.1 + 37) (some (aRo am x1)) x2 x3) (k17 x1 x2 x3)) (x1 : Nat) (x2 : Int32) (x3 : Int32) (x4 : Int32) (x5 : Int32) : Sc am id (X1_measureReach_64 K17 (am.1 + 37) (some (aRo am x1)) x2 x3 x4 x5) (C1_measureReach_64 k17 x1 x2 x3 x4 x5) := by
  unfold X1_measureReach_64 C1_measureReach_64
  refine sc_gR (q := (10, 0)) (b := (aAr am 10 0)) (fun _ => rfl) rfl (fun _ => ⟨_, rfl, rfl⟩) ?_
  refine sc_aN (t := 10) (i := 0) fun v1 => ?_
  refine sc_ite ?_ ?_
  · exact u_X1_measureReach_83 _ hk17 x1 x2 x3 x5
  · refine sc_gR (q := (10, 0)) (b := (aAr am 10 0)) (fun _ => rfl) rfl (fun _ => ⟨_, rfl, rfl⟩) ?_
    refine sc_sI (t := 10) (i := 0) ?_
    exact u_X1_measureReach_83 _ hk17 x1 x2 x3 x5
theorem u_X1_measureReach_39_st {am : AM} {k17 : Nat → Int32 → Int32 → CM Int32} (K17 : Nat → Option Nat → Int32 → Int32 → MM Int32) (hk17 : ∀ (x1 : Nat) (x2 : Int32) (x3 : Int32), Sc am id (K17 (am.1 + 37) (some (aRo am x1)) x2 x3) (k17 x1 x2 x3)) {k39 : Nat → Int32 → Int32 → Int32 → Int32 → CM Int32} (K39 : Nat → Option Nat → Int32 → Int32 → Int32 → Int32 → MM Int32) (hk39 : ∀ (x1 : Nat) (x2 : Int32) (x3 : Int32) (x4 : Int32) (x5 : Int32), Sc am id (K39 (am.1 + 37) (some (aRo am x1)) x2 x3 x4 x5) (k39 x1 x2 x3 x4 x5)) (x1 : Nat) (x2 : Int32) (x3 : Int32) (x4 : Int32) (x5 : Int32) : Sc am id (X1_measureReach_39_st K17 K39 (am.1 + 37) (some (aRo am x1)) x2 x3 x4 x5) (C1_measureReach_39_st k17 k39 x1 x2 x3 x4 x5) := by
  unfold X1_measureReach_39_st C1_measureReach_39_st
  refine sc_ite ?_ ?_
  · exact u_X1_measureReach_64 _ hk17 x1 x2 x3 x4 x5
  · refine sc_gR (q := (10, 0)) (b := (aAr am 10 0)) (fun _ => rfl) rfl (fun _ => ⟨_, rfl, rfl⟩) ?_
    refine sc_aI (t := 10) (i := 0) fun v1 => ?_
    refine sc_ite ?_ ?_
    · exact u_X1_measureReach_64 _ hk17 x1 x2 x3 x4 x5
    · exact hk39 x1 x2 x3 x4 (x5 + (-1 : Int32))
theorem u_X1_measureReach_39 {am : AM} {k17 : Nat → Int32 → Int32 → CM Int32} (K17 : Nat → Option Nat → Int32 → Int32 → MM Int32) (hk17 : ∀ (x1 : Nat) (x2 : Int32) (x3 : Int32), Sc am id (K17 (am.1 + 37) (some (aRo am x1)) x2 x3) (k17 x1 x2 x3)) : ∀ (n : Nat) (x1 : Nat) (x2 : Int32) (x3 : Int32) (x4 : Int32) (x5 : Int32), Sc am id (X1_measureReach_39 K17 n (am.1 + 37) (some (aRo am x1)) x2 x3 x4 x5) (C1_measureReach_39 k17 n x1 x2 x3 x4 x5) := by
  intro n
  induction n with
  | zero => intro x1 x2 x3 x4 x5; exact sc_mf
  | succ n ih => intro x1 x2 x3 x4 x5; exact u_X1_measureReach_39_st _ hk17 _ ih x1 x2 x3 x4 x5
theorem u_X1_measureReach_17_st {am : AM} {k17 : Nat → Int32 → Int32 → CM Int32} (K17 : Nat → Option Nat → Int32 → Int32 → MM Int32) (hk17 : ∀ (x1 : Nat) (x2 : Int32) (x3 : Int32), Sc am id (K17 (am.1 + 37) (some (aRo am x1)) x2 x3) (k17 x1 x2 x3)) (x1 : Nat) (x2 : Int32) (x3 : Int32) : Sc am id (X1_measureReach_17_st  K17 (am.1 + 37) (some (aRo am x1)) x2 x3) (C1_measureReach_17_st  k17 x1 x2 x3) := by
  unfold X1_measureReach_17_st C1_measureReach_17_st
  refine sc_ite ?_ ?_
  · exact sc_ret
  · refine sc_wcd (q := (1, x1)) (k := id) rfl (fun _ => ⟨_, rfl⟩) (u_X8_get x1 x3) fun v1 => ?_
    refine sc_gR (q := (10, 0)) (b := (aAr am 10 0)) (fun _ => rfl) rfl (fun _ => ⟨_, rfl, rfl⟩) ?_
    refine sc_aN (t := 10) (i := 0) fun v2 => ?_
    exact u_X1_measureReach_39 _ hk17 LFU x1 x2 x3 v1 (if v2 < x2 then v2 else x2)
theorem u_X1_measureReach_17 {am : AM} : ∀ (n : Nat) (x1 : Nat) (x2 : Int32) (x3 : Int32), Sc am id (X1_measureReach_17  n (am.1 + 37) (some (aRo am x1)) x2 x3) (C1_measureReach_17  n x1 x2 x3) := by
  intro n
  induction n with
  | zero => intro x1 x2 x3; exact sc_mf
  | succ n ih => intro x1 x2 x3; exact u_X1_measureReach_17_st  _ ih x1 x2 x3
theorem u_X1_measureReach {am : AM} (a1 : Nat) : Sc am id (X1_measureReach (am.1 + 37) (some (aRo am a1))) (C1_measureReach a1) := by
  unfold X1_measureReach C1_measureReach
  refine sc_gI (t := 1) (i := a1) rfl (fun _ => ⟨_, rfl, rfl⟩) fun v1 => ?_
  refine sc_gR (q := (10, 0)) (b := (aAr am 9 0)) (fun _ => rfl) rfl (fun _ => ⟨_, rfl, rfl⟩) ?_
  refine sc_aN (t := 9) (i := 0) fun v2 => ?_
  exact u_X1_measureReach_17  LFU a1 (0 : Int32) ((if v2 < v1 then v2 else v1) - (1 : Int32))
def C1_listStrays_81 (k8 : Nat → Int32 → Int32 → Int32 → CM Unit) (x1 : Nat) (x3 : Int32) (x4 : Int32) (x5 : Int32) : CM Unit :=
  (k8 x1 x3 x4 (x5 + (1 : Int32)))
def C1_listStrays_71 (k8 : Nat → Int32 → Int32 → Int32 → CM Unit) (x1 : Nat) (x3 : Int32) (x4 : Int32) (x5 : Int32) : CM Unit :=
  cb (cE (4, x1)) fun _ =>
  cb (cE (1, (203 + 5 * x1))) fun _ =>
  cb (C8_add (203 + 5 * x1) x5) fun v1 =>
  (C1_listStrays_81 k8 x1 x3 x4 x5)
def C1_listStrays_8_st  (k8 : Nat → Int32 → Int32 → Int32 → CM Unit) (x1 : Nat) (x3 : Int32) (x4 : Int32) (x5 : Int32) : CM Unit :=
  cb (cE (4, x1)) fun _ =>
  cb (cG 1 (200 + 5 * x1)) fun v1 =>
  cb (cN 9 0) fun v2 =>
  if (if v2 < v1 then v2 else v1) ≤ x5 then (cr ()) else (cb (cE (4, x1)) fun _ =>
  cb (cE (1, (200 + 5 * x1))) fun _ =>
  cb (C8_get (200 + 5 * x1) x5) fun v3 =>
  if x3 ≤ 0 then ((C1_listStrays_71 k8 x1 x3 x4 x5)) else (cb (cA 9 0 x5) fun v4 =>
  if v4 = x3 then (if v3 ≤ x4 then ((C1_listStrays_71 k8 x1 x3 x4 x5)) else ((C1_listStrays_81 k8 x1 (x3 + (-1 : Int32)) v3 x5))) else ((C1_listStrays_71 k8 x1 x3 x4 x5))))
def C1_listStrays_8  : Nat → Nat → Int32 → Int32 → Int32 → CM Unit
  | 0 => fun _ _ _ _ => cf
  | n + 1 => fun x1 x3 x4 x5 => C1_listStrays_8_st  (C1_listStrays_8  n) x1 x3 x4 x5
def C1_listStrays (a1 : Nat) (a2 : Int32) : CM Unit :=
  (C1_listStrays_8  LFU a1 a2 (-1 : Int32) (0 : Int32))
theorem u_X1_listStrays_81 {am : AM} {k8 : Nat → Int32 → Int32 → Int32 → CM Unit} (K8 : Nat → Option Nat → Int32 → Int32 → Int32 → MM Unit) (hk8 : ∀ (x1 : Nat) (x3 : Int32) (x4 : Int32) (x5 : Int32), Sc am id (K8 (am.1 + 37) (some (aCo am x1)) x3 x4 x5) (k8 x1 x3 x4 x5)) (x1 : Nat) (x3 : Int32) (x4 : Int32) (x5 : Int32) : Sc am id (X1_listStrays_81 K8 (am.1 + 37) (some (aCo am x1)) x3 x4 x5) (C1_listStrays_81 k8 x1 x3 x4 x5) := by
  unfold X1_listStrays_81 C1_listStrays_81
  exact hk8 x1 x3 x4 (x5 + (1 : Int32))
theorem u_X1_listStrays_71 {am : AM} {k8 : Nat → Int32 → Int32 → Int32 → CM Unit} (K8 : Nat → Option Nat → Int32 → Int32 → Int32 → MM Unit) (hk8 : ∀ (x1 : Nat) (x3 : Int32) (x4 : Int32) (x5 : Int32), Sc am id (K8 (am.1 + 37) (some (aCo am x1)) x3 x4 x5) (k8 x1 x3 x4 x5)) (x1 : Nat) (x3 : Int32) (x4 : Int32) (x5 : Int32) : Sc am id (X1_listStrays_71 K8 (am.1 + 37) (some (aCo am x1)) x3 x4 x5) (C1_listStrays_71 k8 x1 x3 x4 x5) := by
  unfold X1_listStrays_71 C1_listStrays_71
  refine sc_gRd (q := (4, x1)) (b := (aRo am (203 + 5 * x1))) rfl (fun _ => ⟨_, rfl, rfl⟩) ?_
  refine sc_wcd (q := (1, (203 + 5 * x1))) (k := id) rfl (fun _ => ⟨_, rfl⟩) (u_X8_add (203 + 5 * x1) x5) fun v1 => ?_
  exact u_X1_listStrays_81 _ hk8 x1 x3 x4 x5
theorem u_X1_listStrays_8_st {am : AM} {k8 : Nat → Int32 → Int32 → Int32 → CM Unit} (K8 : Nat → Option Nat → Int32 → Int32 → Int32 → MM Unit) (hk8 : ∀ (x1 : Nat) (x3 : Int32) (x4 : Int32) (x5 : Int32), Sc am id (K8 (am.1 + 37) (some (aCo am x1)) x3 x4 x5) (k8 x1 x3 x4 x5)) (x1 : Nat) (x3 : Int32) (x4 : Int32) (x5 : Int32) : Sc am id (X1_listStrays_8_st  K8 (am.1 + 37) (some (aCo am x1)) x3 x4 x5) (C1_listStrays_8_st  k8 x1 x3 x4 x5) := by
  unfold X1_listStrays_8_st C1_listStrays_8_st
  refine sc_gRd (q := (4, x1)) (b := (aRo am (200 + 5 * x1))) rfl (fun _ => ⟨_, rfl, rfl⟩) ?_
  refine sc_gI (t := 1) (i := (200 + 5 * x1)) rfl (fun _ => ⟨_, rfl, rfl⟩) fun v1 => ?_
  refine sc_gR (q := (10, 0)) (b := (aAr am 9 0)) (fun _ => rfl) rfl (fun _ => ⟨_, rfl, rfl⟩) ?_
  refine sc_aN (t := 9) (i := 0) fun v2 => ?_
  refine sc_ite ?_ ?_
  · exact sc_ret
  · refine sc_gRd (q := (4, x1)) (b := (aRo am (200 + 5 * x1))) rfl (fun _ => ⟨_, rfl, rfl⟩) ?_
    refine sc_wcd (q := (1, (200 + 5 * x1))) (k := id) rfl (fun _ => ⟨_, rfl⟩) (u_X8_get (200 + 5 * x1) x5) fun v3 => ?_
    refine sc_ite ?_ ?_
    · exact u_X1_listStrays_71 _ hk8 x1 x3 x4 x5
    · refine sc_gR (q := (10, 0)) (b := (aAr am 9 0)) (fun _ => rfl) rfl (fun _ => ⟨_, rfl, rfl⟩) ?_
      refine sc_aI (t := 9) (i := 0) fun v4 => ?_
      refine sc_ite ?_ ?_
      · refine sc_ite ?_ ?_
        · exact u_X1_listStrays_71 _ hk8 x1 x3 x4 x5
        · exact u_X1_listStrays_81 _ hk8 x1 (x3 + (-1 : Int32)) v3 x5
      · exact u_X1_listStrays_71 _ hk8 x1 x3 x4 x5
theorem u_X1_listStrays_8 {am : AM} : ∀ (n : Nat) (x1 : Nat) (x3 : Int32) (x4 : Int32) (x5 : Int32), Sc am id (X1_listStrays_8  n (am.1 + 37) (some (aCo am x1)) x3 x4 x5) (C1_listStrays_8  n x1 x3 x4 x5) := by
  intro n
  induction n with
  | zero => intro x1 x3 x4 x5; exact sc_mf
  | succ n ih => intro x1 x3 x4 x5; exact u_X1_listStrays_8_st  _ ih x1 x3 x4 x5
theorem u_X1_listStrays {am : AM} (a1 : Nat) (a2 : Int32) : Sc am id (X1_listStrays (am.1 + 37) (some (aCo am a1)) a2) (C1_listStrays a1 a2) := by
  unfold X1_listStrays C1_listStrays
  exact u_X1_listStrays_8  LFU a1 a2 (-1 : Int32) (0 : Int32)
def C1_collate_92 (k10 : Nat → Int32 → CM Unit) (x1 : Nat) (x2 : Int32) : CM Unit :=
  (k10 x1 (x2 + (1 : Int32)))
def C1_collate_64 (k10 : Nat → Int32 → CM Unit) (x1 : Nat) (x2 : Int32) (x3 : Int32) (x4 : Int32) : CM Unit :=
  if x3 ≤ 0 then ((C1_collate_92 k10 x1 x2)) else (if x4 = (-1 : Int32) then ((C1_collate_92 k10 x1 x2)) else (cb (C1_markAt x4) fun v1 =>
  if v1 = 0 then (cb (cE (4, x1)) fun _ =>
  cb (cE (1, (204 + 5 * x1))) fun _ =>
  cb (C8_add (204 + 5 * x1) x2) fun v2 =>
  (C1_collate_92 k10 x1 x2)) else ((C1_collate_92 k10 x1 x2))))
def C1_collate_50 (k10 : Nat → Int32 → CM Unit) (x1 : Nat) (x2 : Int32) (x3 : Int32) (x4 : Int32) : CM Unit :=
  if x3 < (2 : Int32) then ((C1_collate_64 k10 x1 x2 x3 x4)) else (cb (cE (4, x1)) fun _ =>
  cb (cE (1, (202 + 5 * x1))) fun _ =>
  cb (C8_add (202 + 5 * x1) x2) fun v1 =>
  (C1_collate_64 k10 x1 x2 x3 x4))
def C1_collate_98  (x1 : Nat) : CM Unit :=
  cb (cE (4, x1)) fun _ =>
  cb (C1_measureReach (200 + 5 * x1)) fun v1 =>
  cb (C1_listStrays x1 v1) fun _ =>
  cr ()
def C1_collate_10_st  (k10 : Nat → Int32 → CM Unit) (x1 : Nat) (x2 : Int32) : CM Unit :=
  cb (cR x1) fun v1 =>
  cb (cE (3, v1)) fun _ =>
  cb (C0_leafCount v1 ) fun v2 =>
  if v2 ≤ x2 then ((C1_collate_98  x1)) else (cb (C1_markAt x2) fun v3 =>
  cb (cR x1) fun v4 =>
  cb (cE (3, v4)) fun _ =>
  cb (C0_conjugateOf v4 x2) fun v5 =>
  if v3 = 0 then (cb (cE (4, x1)) fun _ =>
  cb (cE (1, (201 + 5 * x1))) fun _ =>
  cb (C8_add (201 + 5 * x1) x2) fun v6 =>
  (C1_collate_50 k10 x1 x2 v3 v5)) else ((C1_collate_50 k10 x1 x2 v3 v5)))
def C1_collate_10  : Nat → Nat → Int32 → CM Unit
  | 0 => fun _ _ => cf
  | n + 1 => fun x1 x2 => C1_collate_10_st  (C1_collate_10  n) x1 x2
def C1_collate (a1 : Nat) : CM Unit :=
  cb (cE (4, a1)) fun _ =>
  cb (C1_countEntries (200 + 5 * a1)) fun _ =>
  (C1_collate_10  LFU a1 (0 : Int32))
theorem u_X1_collate_92 {am : AM} {k10 : Nat → Int32 → CM Unit} (K10 : Nat → Option Nat → Int32 → MM Unit) (hk10 : ∀ (x1 : Nat) (x2 : Int32), Sc am id (K10 (am.1 + 37) (some (aCo am x1)) x2) (k10 x1 x2)) (x1 : Nat) (x2 : Int32) : Sc am id (X1_collate_92 K10 (am.1 + 37) (some (aCo am x1)) x2) (C1_collate_92 k10 x1 x2) := by
  unfold X1_collate_92 C1_collate_92
  exact hk10 x1 (x2 + (1 : Int32))
theorem u_X1_collate_64 {am : AM} {k10 : Nat → Int32 → CM Unit} (K10 : Nat → Option Nat → Int32 → MM Unit) (hk10 : ∀ (x1 : Nat) (x2 : Int32), Sc am id (K10 (am.1 + 37) (some (aCo am x1)) x2) (k10 x1 x2)) (x1 : Nat) (x2 : Int32) (x3 : Int32) (x4 : Int32) : Sc am id (X1_collate_64 K10 (am.1 + 37) (some (aCo am x1)) x2 x3 x4) (C1_collate_64 k10 x1 x2 x3 x4) := by
  unfold X1_collate_64 C1_collate_64
  refine sc_ite ?_ ?_
  · exact u_X1_collate_92 _ hk10 x1 x2
  · refine sc_ite ?_ ?_
    · exact u_X1_collate_92 _ hk10 x1 x2
    · refine sc_wc (q := (10, 0)) (k := id) (fun _ => rfl) rfl (fun _ => ⟨_, rfl⟩) (u_X1_markAt x4) fun v1 => ?_
      refine sc_ite ?_ ?_
      · refine sc_gRd (q := (4, x1)) (b := (aRo am (204 + 5 * x1))) rfl (fun _ => ⟨_, rfl, rfl⟩) ?_
        refine sc_wcd (q := (1, (204 + 5 * x1))) (k := id) rfl (fun _ => ⟨_, rfl⟩) (u_X8_add (204 + 5 * x1) x2) fun v2 => ?_
        exact u_X1_collate_92 _ hk10 x1 x2
      · exact u_X1_collate_92 _ hk10 x1 x2
theorem u_X1_collate_50 {am : AM} {k10 : Nat → Int32 → CM Unit} (K10 : Nat → Option Nat → Int32 → MM Unit) (hk10 : ∀ (x1 : Nat) (x2 : Int32), Sc am id (K10 (am.1 + 37) (some (aCo am x1)) x2) (k10 x1 x2)) (x1 : Nat) (x2 : Int32) (x3 : Int32) (x4 : Int32) : Sc am id (X1_collate_50 K10 (am.1 + 37) (some (aCo am x1)) x2 x3 x4) (C1_collate_50 k10 x1 x2 x3 x4) := by
  unfold X1_collate_50 C1_collate_50
  refine sc_ite ?_ ?_
  · exact u_X1_collate_64 _ hk10 x1 x2 x3 x4
  · refine sc_gRd (q := (4, x1)) (b := (aRo am (202 + 5 * x1))) rfl (fun _ => ⟨_, rfl, rfl⟩) ?_
    refine sc_wcd (q := (1, (202 + 5 * x1))) (k := id) rfl (fun _ => ⟨_, rfl⟩) (u_X8_add (202 + 5 * x1) x2) fun v1 => ?_
    exact u_X1_collate_64 _ hk10 x1 x2 x3 x4
theorem u_X1_collate_98 {am : AM} (x1 : Nat) : Sc am id (X1_collate_98  (am.1 + 37) (some (aCo am x1))) (C1_collate_98  x1) := by
  unfold X1_collate_98 C1_collate_98
  refine sc_gRd (q := (4, x1)) (b := (aRo am (200 + 5 * x1))) rfl (fun _ => ⟨_, rfl, rfl⟩) ?_
  refine sc_wc (q := (10, 0)) (k := id) (fun _ => rfl) rfl (fun _ => ⟨_, rfl⟩) (u_X1_measureReach (200 + 5 * x1)) fun v1 => ?_
  refine sc_wc (q := (10, 0)) (k := id) (fun _ => rfl) rfl (fun _ => ⟨_, rfl⟩) (u_X1_listStrays x1 v1) fun _ => ?_
  exact sc_ret
theorem u_X1_collate_10_st {am : AM} {k10 : Nat → Int32 → CM Unit} (K10 : Nat → Option Nat → Int32 → MM Unit) (hk10 : ∀ (x1 : Nat) (x2 : Int32), Sc am id (K10 (am.1 + 37) (some (aCo am x1)) x2) (k10 x1 x2)) (x1 : Nat) (x2 : Int32) : Sc am id (X1_collate_10_st  K10 (am.1 + 37) (some (aCo am x1)) x2) (C1_collate_10_st  k10 x1 x2) := by
  unfold X1_collate_10_st C1_collate_10_st
  refine sc_gS fun v1 => ?_
  refine sc_wcd (q := (3, v1)) (k := id) rfl (fun _ => ⟨_, rfl⟩) (u_X0_leafCount v1 ) fun v2 => ?_
  refine sc_ite ?_ ?_
  · exact u_X1_collate_98  x1
  · refine sc_wc (q := (10, 0)) (k := id) (fun _ => rfl) rfl (fun _ => ⟨_, rfl⟩) (u_X1_markAt x2) fun v3 => ?_
    refine sc_gS fun v4 => ?_
    refine sc_wcd (q := (3, v4)) (k := id) rfl (fun _ => ⟨_, rfl⟩) (u_X0_conjugateOf v4 x2) fun v5 => ?_
    refine sc_ite ?_ ?_
    · refine sc_gRd (q := (4, x1)) (b := (aRo am (201 + 5 * x1))) rfl (fun _ => ⟨_, rfl, rfl⟩) ?_
      refine sc_wcd (q := (1, (201 + 5 * x1))) (k := id) rfl (fun _ => ⟨_, rfl⟩) (u_X8_add (201 + 5 * x1) x2) fun v6 => ?_
      exact u_X1_collate_50 _ hk10 x1 x2 v3 v5
    · exact u_X1_collate_50 _ hk10 x1 x2 v3 v5
theorem u_X1_collate_10 {am : AM} : ∀ (n : Nat) (x1 : Nat) (x2 : Int32), Sc am id (X1_collate_10  n (am.1 + 37) (some (aCo am x1)) x2) (C1_collate_10  n x1 x2) := by
  intro n
  induction n with
  | zero => intro x1 x2; exact sc_mf
  | succ n ih => intro x1 x2; exact u_X1_collate_10_st  _ ih x1 x2
theorem u_X1_collate {am : AM} (a1 : Nat) : Sc am id (X1_collate (am.1 + 37) (some (aCo am a1))) (C1_collate a1) := by
  unfold X1_collate C1_collate
  refine sc_gRd (q := (4, a1)) (b := (aRo am (200 + 5 * a1))) rfl (fun _ => ⟨_, rfl, rfl⟩) ?_
  refine sc_wc (q := (10, 0)) (k := id) (fun _ => rfl) rfl (fun _ => ⟨_, rfl⟩) (u_X1_countEntries (200 + 5 * a1)) fun _ => ?_
  exact u_X1_collate_10  LFU a1 (0 : Int32)
def C9_writeHead_20  (x1 : Nat) : CM Unit :=
  cb (cXs x1) fun _ =>
  cr ()
def C9_writeHead (a1 : Nat) : CM Unit :=
  cb cXl fun v1 =>
  if v1 ≤ 0 then ((C9_writeHead_20  a1)) else (cb (cXs 6) fun _ =>
  (C9_writeHead_20  a1))
theorem u_X9_writeHead_20 {am : AM} (x1 : Nat) : Sc am id (X9_writeHead_20  (am.1 + 41) (some (aSt am x1))) (C9_writeHead_20  x1) := by
  unfold X9_writeHead_20 C9_writeHead_20
  refine sc_gR (q := (13, 0)) (b := (am.1 + 42)) (fun _ => rfl) rfl (fun _ => ⟨_, rfl, rfl⟩) ?_
  refine sc_Xs ?_
  exact sc_ret
theorem u_X9_writeHead {am : AM} (a1 : Nat) : Sc am id (X9_writeHead (am.1 + 41) (some (aSt am a1))) (C9_writeHead a1) := by
  unfold X9_writeHead C9_writeHead
  refine sc_gR (q := (13, 0)) (b := (am.1 + 42)) (fun _ => rfl) rfl (fun _ => ⟨_, rfl, rfl⟩) ?_
  refine sc_Xl fun v1 => ?_
  refine sc_ite ?_ ?_
  · exact u_X9_writeHead_20  a1
  · refine sc_gR (q := (13, 0)) (b := (am.1 + 42)) (fun _ => rfl) rfl (fun _ => ⟨_, rfl, rfl⟩) ?_
    refine sc_kR (i := 6) rfl ?_
    refine sc_Xs ?_
    exact u_X9_writeHead_20  a1
def C9_writeName (a1 : Nat) (a2 : Int32) : CM Unit :=
  cb (cE (3, a1)) fun _ =>
  cb (C0_signAt a1 a2) fun v1 =>
  cb (C9_writeSign v1) fun _ =>
  cb (cE (3, a1)) fun _ =>
  cb (cE (1, (101 + 4 * a1))) fun _ =>
  cb (C8_get (101 + 4 * a1) a2) fun v2 =>
  cb (cXi v2) fun _ =>
  cb (cE (3, a1)) fun _ =>
  cb (cE (1, (103 + 4 * a1))) fun _ =>
  cb (C8_get (103 + 4 * a1) a2) fun v3 =>
  if v3 ≤ 0 then (cr ()) else (cb (cXc (43 : Int32)) fun _ =>
  cb (cXi v3) fun _ =>
  cr ())
theorem u_X9_writeName {am : AM} (a1 : Nat) (a2 : Int32) : Sc am id (X9_writeName (am.1 + 41) (some (aBo am a1)) a2) (C9_writeName a1 a2) := by
  unfold X9_writeName C9_writeName
  refine sc_wcd (q := (3, a1)) (k := id) rfl (fun _ => ⟨_, rfl⟩) (u_X0_signAt a1 a2) fun v1 => ?_
  refine sc_wc (q := (13, 0)) (k := id) (fun _ => rfl) rfl (fun _ => ⟨_, rfl⟩) (u_X9_writeSign v1) fun _ => ?_
  refine sc_gR (q := (13, 0)) (b := (am.1 + 42)) (fun _ => rfl) rfl (fun _ => ⟨_, rfl, rfl⟩) ?_
  refine sc_gRd (q := (3, a1)) (b := (aRo am (101 + 4 * a1))) rfl (fun _ => ⟨_, rfl, rfl⟩) ?_
  refine sc_wcd (q := (1, (101 + 4 * a1))) (k := id) rfl (fun _ => ⟨_, rfl⟩) (u_X8_get (101 + 4 * a1) a2) fun v2 => ?_
  refine sc_Xi ?_
  refine sc_gRd (q := (3, a1)) (b := (aRo am (103 + 4 * a1))) rfl (fun _ => ⟨_, rfl, rfl⟩) ?_
  refine sc_wcd (q := (1, (103 + 4 * a1))) (k := id) rfl (fun _ => ⟨_, rfl⟩) (u_X8_get (103 + 4 * a1) a2) fun v3 => ?_
  refine sc_ite ?_ ?_
  · exact sc_ret
  · refine sc_gR (q := (13, 0)) (b := (am.1 + 42)) (fun _ => rfl) rfl (fun _ => ⟨_, rfl, rfl⟩) ?_
    refine sc_Xc ?_
    refine sc_Xi ?_
    exact sc_ret
def C9_writeRuns_121 (k19 : Nat → Nat → Int32 → Int32 → CM Unit) (x2 : Nat) (x3 : Nat) (x4 : Int32) (x5 : Int32) : CM Unit :=
  (k19 x2 x3 x4 (x5 + (1 : Int32)))
def C9_writeRuns_115 (k19 : Nat → Nat → Int32 → Int32 → CM Unit) (x2 : Nat) (x3 : Nat) (x5 : Int32) : CM Unit :=
  (C9_writeRuns_121 k19 x2 x3 (x5 + (1 : Int32)) x5)
def C9_writeRuns_76 (k19 : Nat → Nat → Int32 → Int32 → CM Unit) (x2 : Nat) (x3 : Nat) (x4 : Int32) (x5 : Int32) : CM Unit :=
  cb (cE (1, x3)) fun _ =>
  cb (C8_get x3 x4) fun v1 =>
  cb (C9_writeName x2 v1) fun _ =>
  if x5 ≤ x4 then ((C9_writeRuns_115 k19 x2 x3 x5)) else (cb (cXc (45 : Int32)) fun _ =>
  cb (cE (1, x3)) fun _ =>
  cb (C8_get x3 x5) fun v2 =>
  cb (C9_writeName x2 v2) fun _ =>
  (C9_writeRuns_115 k19 x2 x3 x5))
def C9_writeRuns_61 (k19 : Nat → Nat → Int32 → Int32 → CM Unit) (x2 : Nat) (x3 : Nat) (x4 : Int32) (x5 : Int32) : CM Unit :=
  if x4 ≤ 0 then ((C9_writeRuns_76 k19 x2 x3 x4 x5)) else (cb (cXs 7) fun _ =>
  (C9_writeRuns_76 k19 x2 x3 x4 x5))
def C9_writeRuns_19_st  (k19 : Nat → Nat → Int32 → Int32 → CM Unit) (x2 : Nat) (x3 : Nat) (x4 : Int32) (x5 : Int32) : CM Unit :=
  cb (cG 1 x3) fun v1 =>
  if v1 ≤ x5 then (cr ()) else (cb (cG 1 x3) fun v2 =>
  if v2 ≤ (x5 + (1 : Int32)) then ((C9_writeRuns_61 k19 x2 x3 x4 x5)) else (cb (cE (1, x3)) fun _ =>
  cb (C8_get x3 (x5 + (1 : Int32))) fun v3 =>
  cb (cE (1, x3)) fun _ =>
  cb (C8_get x3 x5) fun v4 =>
  if v3 = (v4 + (1 : Int32)) then ((C9_writeRuns_121 k19 x2 x3 x4 x5)) else ((C9_writeRuns_61 k19 x2 x3 x4 x5))))
def C9_writeRuns_19  : Nat → Nat → Nat → Int32 → Int32 → CM Unit
  | 0 => fun _ _ _ _ => cf
  | n + 1 => fun x2 x3 x4 x5 => C9_writeRuns_19_st  (C9_writeRuns_19  n) x2 x3 x4 x5
def C9_writeRuns (a1 : Nat) (a2 : Nat) (a3 : Nat) : CM Unit :=
  cb (cG 1 a3) fun v1 =>
  if v1 = 0 then (cr ()) else (cb (C9_writeHead a1) fun _ =>
  (C9_writeRuns_19  LFU a2 a3 (0 : Int32) (0 : Int32)))
theorem u_X9_writeRuns_121 {am : AM} {k19 : Nat → Nat → Int32 → Int32 → CM Unit} (K19 : Nat → Option Nat → Option Nat → Int32 → Int32 → MM Unit) (hk19 : ∀ (x2 : Nat) (x3 : Nat) (x4 : Int32) (x5 : Int32), Sc am id (K19 (am.1 + 41) (some (aBo am x2)) (some (aRo am x3)) x4 x5) (k19 x2 x3 x4 x5)) (x2 : Nat) (x3 : Nat) (x4 : Int32) (x5 : Int32) : Sc am id (X9_writeRuns_121 K19 (am.1 + 41) (some (aBo am x2)) (some (aRo am x3)) x4 x5) (C9_writeRuns_121 k19 x2 x3 x4 x5) := by
  unfold X9_writeRuns_121 C9_writeRuns_121
  exact hk19 x2 x3 x4 (x5 + (1 : Int32))
theorem u_X9_writeRuns_115 {am : AM} {k19 : Nat → Nat → Int32 → Int32 → CM Unit} (K19 : Nat → Option Nat → Option Nat → Int32 → Int32 → MM Unit) (hk19 : ∀ (x2 : Nat) (x3 : Nat) (x4 : Int32) (x5 : Int32), Sc am id (K19 (am.1 + 41) (some (aBo am x2)) (some (aRo am x3)) x4 x5) (k19 x2 x3 x4 x5)) (x2 : Nat) (x3 : Nat) (x5 : Int32) : Sc am id (X9_writeRuns_115 K19 (am.1 + 41) (some (aBo am x2)) (some (aRo am x3)) x5) (C9_writeRuns_115 k19 x2 x3 x5) := by
  unfold X9_writeRuns_115 C9_writeRuns_115
  exact u_X9_writeRuns_121 _ hk19 x2 x3 (x5 + (1 : Int32)) x5
theorem u_X9_writeRuns_76 {am : AM} {k19 : Nat → Nat → Int32 → Int32 → CM Unit} (K19 : Nat → Option Nat → Option Nat → Int32 → Int32 → MM Unit) (hk19 : ∀ (x2 : Nat) (x3 : Nat) (x4 : Int32) (x5 : Int32), Sc am id (K19 (am.1 + 41) (some (aBo am x2)) (some (aRo am x3)) x4 x5) (k19 x2 x3 x4 x5)) (x2 : Nat) (x3 : Nat) (x4 : Int32) (x5 : Int32) : Sc am id (X9_writeRuns_76 K19 (am.1 + 41) (some (aBo am x2)) (some (aRo am x3)) x4 x5) (C9_writeRuns_76 k19 x2 x3 x4 x5) := by
  unfold X9_writeRuns_76 C9_writeRuns_76
  refine sc_wcd (q := (1, x3)) (k := id) rfl (fun _ => ⟨_, rfl⟩) (u_X8_get x3 x4) fun v1 => ?_
  refine sc_wc (q := (13, 0)) (k := id) (fun _ => rfl) rfl (fun _ => ⟨_, rfl⟩) (u_X9_writeName x2 v1) fun _ => ?_
  refine sc_ite ?_ ?_
  · exact u_X9_writeRuns_115 _ hk19 x2 x3 x5
  · refine sc_gR (q := (13, 0)) (b := (am.1 + 42)) (fun _ => rfl) rfl (fun _ => ⟨_, rfl, rfl⟩) ?_
    refine sc_Xc ?_
    refine sc_wcd (q := (1, x3)) (k := id) rfl (fun _ => ⟨_, rfl⟩) (u_X8_get x3 x5) fun v2 => ?_
    refine sc_wc (q := (13, 0)) (k := id) (fun _ => rfl) rfl (fun _ => ⟨_, rfl⟩) (u_X9_writeName x2 v2) fun _ => ?_
    exact u_X9_writeRuns_115 _ hk19 x2 x3 x5
theorem u_X9_writeRuns_61 {am : AM} {k19 : Nat → Nat → Int32 → Int32 → CM Unit} (K19 : Nat → Option Nat → Option Nat → Int32 → Int32 → MM Unit) (hk19 : ∀ (x2 : Nat) (x3 : Nat) (x4 : Int32) (x5 : Int32), Sc am id (K19 (am.1 + 41) (some (aBo am x2)) (some (aRo am x3)) x4 x5) (k19 x2 x3 x4 x5)) (x2 : Nat) (x3 : Nat) (x4 : Int32) (x5 : Int32) : Sc am id (X9_writeRuns_61 K19 (am.1 + 41) (some (aBo am x2)) (some (aRo am x3)) x4 x5) (C9_writeRuns_61 k19 x2 x3 x4 x5) := by
  unfold X9_writeRuns_61 C9_writeRuns_61
  refine sc_ite ?_ ?_
  · exact u_X9_writeRuns_76 _ hk19 x2 x3 x4 x5
  · refine sc_gR (q := (13, 0)) (b := (am.1 + 42)) (fun _ => rfl) rfl (fun _ => ⟨_, rfl, rfl⟩) ?_
    refine sc_kR (i := 7) rfl ?_
    refine sc_Xs ?_
    exact u_X9_writeRuns_76 _ hk19 x2 x3 x4 x5
theorem u_X9_writeRuns_19_st {am : AM} {k19 : Nat → Nat → Int32 → Int32 → CM Unit} (K19 : Nat → Option Nat → Option Nat → Int32 → Int32 → MM Unit) (hk19 : ∀ (x2 : Nat) (x3 : Nat) (x4 : Int32) (x5 : Int32), Sc am id (K19 (am.1 + 41) (some (aBo am x2)) (some (aRo am x3)) x4 x5) (k19 x2 x3 x4 x5)) (x2 : Nat) (x3 : Nat) (x4 : Int32) (x5 : Int32) : Sc am id (X9_writeRuns_19_st  K19 (am.1 + 41) (some (aBo am x2)) (some (aRo am x3)) x4 x5) (C9_writeRuns_19_st  k19 x2 x3 x4 x5) := by
  unfold X9_writeRuns_19_st C9_writeRuns_19_st
  refine sc_gI (t := 1) (i := x3) rfl (fun _ => ⟨_, rfl, rfl⟩) fun v1 => ?_
  refine sc_ite ?_ ?_
  · exact sc_ret
  · refine sc_gI (t := 1) (i := x3) rfl (fun _ => ⟨_, rfl, rfl⟩) fun v2 => ?_
    refine sc_ite ?_ ?_
    · exact u_X9_writeRuns_61 _ hk19 x2 x3 x4 x5
    · refine sc_wcd (q := (1, x3)) (k := id) rfl (fun _ => ⟨_, rfl⟩) (u_X8_get x3 (x5 + (1 : Int32))) fun v3 => ?_
      refine sc_wcd (q := (1, x3)) (k := id) rfl (fun _ => ⟨_, rfl⟩) (u_X8_get x3 x5) fun v4 => ?_
      refine sc_ite ?_ ?_
      · exact u_X9_writeRuns_121 _ hk19 x2 x3 x4 x5
      · exact u_X9_writeRuns_61 _ hk19 x2 x3 x4 x5
theorem u_X9_writeRuns_19 {am : AM} : ∀ (n : Nat) (x2 : Nat) (x3 : Nat) (x4 : Int32) (x5 : Int32), Sc am id (X9_writeRuns_19  n (am.1 + 41) (some (aBo am x2)) (some (aRo am x3)) x4 x5) (C9_writeRuns_19  n x2 x3 x4 x5) := by
  intro n
  induction n with
  | zero => intro x2 x3 x4 x5; exact sc_mf
  | succ n ih => intro x2 x3 x4 x5; exact u_X9_writeRuns_19_st  _ ih x2 x3 x4 x5
theorem u_X9_writeRuns {am : AM} (a1 : Nat) (a2 : Nat) (a3 : Nat) : Sc am id (X9_writeRuns (am.1 + 41) (some (aSt am a1)) (some (aBo am a2)) (some (aRo am a3))) (C9_writeRuns a1 a2 a3) := by
  unfold X9_writeRuns C9_writeRuns
  refine sc_gI (t := 1) (i := a3) rfl (fun _ => ⟨_, rfl, rfl⟩) fun v1 => ?_
  refine sc_ite ?_ ?_
  · exact sc_ret
  · refine sc_wc (q := (13, 0)) (k := id) (fun _ => rfl) rfl (fun _ => ⟨_, rfl⟩) (u_X9_writeHead a1) fun _ => ?_
    exact u_X9_writeRuns_19  LFU a2 a3 (0 : Int32) (0 : Int32)
def C9_writeMoved_44 (k19 : Nat → Int32 → CM Unit) (x1 : Nat) (x2 : Int32) : CM Unit :=
  cb (cR x1) fun v1 =>
  cb (cE (4, x1)) fun _ =>
  cb (cE (4, x1)) fun _ =>
  cb (cE (1, (203 + 5 * x1))) fun _ =>
  cb (C8_get (203 + 5 * x1) x2) fun v2 =>
  cb (cE (1, (200 + 5 * x1))) fun _ =>
  cb (C8_get (200 + 5 * x1) v2) fun v3 =>
  cb (C9_writeName v1 v3) fun _ =>
  (k19 x1 (x2 + (1 : Int32)))
def C9_writeMoved_19_st  (k19 : Nat → Int32 → CM Unit) (x1 : Nat) (x2 : Int32) : CM Unit :=
  cb (cE (4, x1)) fun _ =>
  cb (cG 1 (203 + 5 * x1)) fun v1 =>
  if v1 ≤ x2 then (cr ()) else (if x2 ≤ 0 then ((C9_writeMoved_44 k19 x1 x2)) else (cb (cXs 7) fun _ =>
  (C9_writeMoved_44 k19 x1 x2)))
def C9_writeMoved_19  : Nat → Nat → Int32 → CM Unit
  | 0 => fun _ _ => cf
  | n + 1 => fun x1 x2 => C9_writeMoved_19_st  (C9_writeMoved_19  n) x1 x2
def C9_writeMoved (a1 : Nat) : CM Unit :=
  cb (cE (4, a1)) fun _ =>
  cb (cG 1 (203 + 5 * a1)) fun v1 =>
  if v1 = 0 then (cr ()) else (cb (C9_writeHead 9) fun _ =>
  (C9_writeMoved_19  LFU a1 (0 : Int32)))
theorem u_X9_writeMoved_44 {am : AM} {k19 : Nat → Int32 → CM Unit} (K19 : Nat → Option Nat → Int32 → MM Unit) (hk19 : ∀ (x1 : Nat) (x2 : Int32), Sc am id (K19 (am.1 + 41) (some (aCo am x1)) x2) (k19 x1 x2)) (x1 : Nat) (x2 : Int32) : Sc am id (X9_writeMoved_44 K19 (am.1 + 41) (some (aCo am x1)) x2) (C9_writeMoved_44 k19 x1 x2) := by
  unfold X9_writeMoved_44 C9_writeMoved_44
  refine sc_gS fun v1 => ?_
  refine sc_gRd (q := (4, x1)) (b := (aRo am (200 + 5 * x1))) rfl (fun _ => ⟨_, rfl, rfl⟩) ?_
  refine sc_gRd (q := (4, x1)) (b := (aRo am (203 + 5 * x1))) rfl (fun _ => ⟨_, rfl, rfl⟩) ?_
  refine sc_wcd (q := (1, (203 + 5 * x1))) (k := id) rfl (fun _ => ⟨_, rfl⟩) (u_X8_get (203 + 5 * x1) x2) fun v2 => ?_
  refine sc_wcd (q := (1, (200 + 5 * x1))) (k := id) rfl (fun _ => ⟨_, rfl⟩) (u_X8_get (200 + 5 * x1) v2) fun v3 => ?_
  refine sc_wc (q := (13, 0)) (k := id) (fun _ => rfl) rfl (fun _ => ⟨_, rfl⟩) (u_X9_writeName v1 v3) fun _ => ?_
  exact hk19 x1 (x2 + (1 : Int32))
theorem u_X9_writeMoved_19_st {am : AM} {k19 : Nat → Int32 → CM Unit} (K19 : Nat → Option Nat → Int32 → MM Unit) (hk19 : ∀ (x1 : Nat) (x2 : Int32), Sc am id (K19 (am.1 + 41) (some (aCo am x1)) x2) (k19 x1 x2)) (x1 : Nat) (x2 : Int32) : Sc am id (X9_writeMoved_19_st  K19 (am.1 + 41) (some (aCo am x1)) x2) (C9_writeMoved_19_st  k19 x1 x2) := by
  unfold X9_writeMoved_19_st C9_writeMoved_19_st
  refine sc_gRd (q := (4, x1)) (b := (aRo am (203 + 5 * x1))) rfl (fun _ => ⟨_, rfl, rfl⟩) ?_
  refine sc_gI (t := 1) (i := (203 + 5 * x1)) rfl (fun _ => ⟨_, rfl, rfl⟩) fun v1 => ?_
  refine sc_ite ?_ ?_
  · exact sc_ret
  · refine sc_ite ?_ ?_
    · exact u_X9_writeMoved_44 _ hk19 x1 x2
    · refine sc_gR (q := (13, 0)) (b := (am.1 + 42)) (fun _ => rfl) rfl (fun _ => ⟨_, rfl, rfl⟩) ?_
      refine sc_kR (i := 7) rfl ?_
      refine sc_Xs ?_
      exact u_X9_writeMoved_44 _ hk19 x1 x2
theorem u_X9_writeMoved_19 {am : AM} : ∀ (n : Nat) (x1 : Nat) (x2 : Int32), Sc am id (X9_writeMoved_19  n (am.1 + 41) (some (aCo am x1)) x2) (C9_writeMoved_19  n x1 x2) := by
  intro n
  induction n with
  | zero => intro x1 x2; exact sc_mf
  | succ n ih => intro x1 x2; exact u_X9_writeMoved_19_st  _ ih x1 x2
theorem u_X9_writeMoved {am : AM} (a1 : Nat) : Sc am id (X9_writeMoved (am.1 + 41) (some (aCo am a1))) (C9_writeMoved a1) := by
  unfold X9_writeMoved C9_writeMoved
  refine sc_gRd (q := (4, a1)) (b := (aRo am (203 + 5 * a1))) rfl (fun _ => ⟨_, rfl, rfl⟩) ?_
  refine sc_gI (t := 1) (i := (203 + 5 * a1)) rfl (fun _ => ⟨_, rfl, rfl⟩) fun v1 => ?_
  refine sc_ite ?_ ?_
  · exact sc_ret
  · refine sc_kR (i := 9) rfl ?_
    refine sc_wc (q := (13, 0)) (k := id) (fun _ => rfl) rfl (fun _ => ⟨_, rfl⟩) (u_X9_writeHead 9) fun _ => ?_
    exact u_X9_writeMoved_19  LFU a1 (0 : Int32)
def C7_readsName  : CM Int32 :=
  cb (C7_begin ) fun _ =>
  cb (C7_readsOneName (0 : Int32)) fun v1 =>
  if v1 = 0 then (cr (0 : Int32)) else (cb (C7_takes (0 : Int32)) fun v2 =>
  if v2 = 0 then (cr (0 : Int32)) else (cr (1 : Int32)))
theorem u_X7_readsName {am : AM}  : Sc am id (X7_readsName (am.1 + 9)) (C7_readsName ) := by
  unfold X7_readsName C7_readsName
  refine sc_wc (q := (7, 0)) (k := id) (fun _ => rfl) rfl (fun _ => ⟨_, rfl⟩) (u_X7_begin ) fun _ => ?_
  refine sc_wc (q := (7, 0)) (k := id) (fun _ => rfl) rfl (fun _ => ⟨_, rfl⟩) (u_X7_readsOneName (0 : Int32)) fun v1 => ?_
  refine sc_ite ?_ ?_
  · exact sc_ret
  · refine sc_wc (q := (7, 0)) (k := id) (fun _ => rfl) rfl (fun _ => ⟨_, rfl⟩) (u_X7_takes (0 : Int32)) fun v2 => ?_
    refine sc_ite ?_ ?_
    · exact sc_ret
    · exact sc_ret
def C11_find (a1 : Int32) : CM Int32 :=
  cb (C11_bookAt a1) fun v1 =>
  con v1 (cb (C10_cutTo (0 : Int32)) fun _ =>
  cb (C11_refuse (1 : Int32)) fun v3 =>
  cr v3) (fun i2 =>
  cb (cP 10 0 (0 : Int32)) fun _ =>
  cb (C7_readsName ) fun v4 =>
  cb (C10_cutTo (0 : Int32)) fun _ =>
  if v4 = 0 then (cb (C11_refuse (2 : Int32)) fun v5 =>
  cr v5) else (cb (cE (3, i2)) fun _ =>
  cb (C0_placeOf i2 (0 : Int32)) fun v6 =>
  cb (C11_answer v6) fun v7 =>
  cr v7))
theorem u_X11_find {am : AM} (a1 : Int32) : Sc am id (X11_find am.1 a1) (C11_find a1) := by
  unfold X11_find C11_find
  refine sc_wc (q := (5, 0)) (k := (fun v : Option Nat => v.map (aBo am))) (fun _ => rfl) rfl (fun _ => ⟨_, rfl⟩) (u_X11_bookAt a1) fun v1 => ?_
  refine sc_con (fun e => ?_) (fun i2 e => ?_)
  · refine sc_gR (q := (5, 0)) (b := (am.1 + 1)) (fun _ => rfl) rfl (fun _ => ⟨_, rfl, rfl⟩) ?_
    refine sc_wc (q := (6, 0)) (k := id) (fun _ => rfl) rfl (fun _ => ⟨_, rfl⟩) (u_X10_cutTo (0 : Int32)) fun _ => ?_
    refine sc_wc (q := (5, 0)) (k := id) (fun _ => rfl) rfl (fun _ => ⟨_, rfl⟩) (u_X11_refuse (1 : Int32)) fun v3 => ?_
    exact sc_ret
  · subst e
    refine sc_pI (t := 10) (i := 0) (by decide) rfl (fun _ => ⟨_, rfl, Nat.le_of_ble_eq_true rfl, celp10⟩) ?_
    refine sc_gR (q := (5, 0)) (b := (am.1 + 9)) (fun _ => rfl) rfl (fun _ => ⟨_, rfl, rfl⟩) ?_
    refine sc_wc (q := (7, 0)) (k := id) (fun _ => rfl) rfl (fun _ => ⟨_, rfl⟩) (u_X7_readsName ) fun v4 => ?_
    refine sc_gR (q := (5, 0)) (b := (am.1 + 1)) (fun _ => rfl) rfl (fun _ => ⟨_, rfl, rfl⟩) ?_
    refine sc_wc (q := (6, 0)) (k := id) (fun _ => rfl) rfl (fun _ => ⟨_, rfl⟩) (u_X10_cutTo (0 : Int32)) fun _ => ?_
    refine sc_ite ?_ ?_
    · refine sc_wc (q := (5, 0)) (k := id) (fun _ => rfl) rfl (fun _ => ⟨_, rfl⟩) (u_X11_refuse (2 : Int32)) fun v5 => ?_
      exact sc_ret
    · refine sc_gR (q := (5, 0)) (b := (am.1 + 9)) (fun _ => rfl) rfl (fun _ => ⟨_, rfl, rfl⟩) ?_
      refine sc_gR (q := (7, 0)) (b := (am.1 + 21)) (fun _ => rfl) rfl (fun _ => ⟨_, rfl, rfl⟩) ?_
      refine sc_wcd (q := (3, i2)) (k := id) rfl (fun _ => ⟨_, rfl⟩) (u_X0_placeOf i2 (0 : Int32)) fun v6 => ?_
      refine sc_wc (q := (5, 0)) (k := id) (fun _ => rfl) rfl (fun _ => ⟨_, rfl⟩) (u_X11_answer v6) fun v7 => ?_
      exact sc_ret
def C11_place  : CM Int32 :=
  cb (cG 5 0) fun v1 =>
  cr v1
theorem u_X11_place {am : AM}  : Sc am id (X11_place am.1) (C11_place ) := by
  unfold X11_place C11_place
  refine sc_gR (q := (5, 0)) (b := (am.1 + 9)) (fun _ => rfl) rfl (fun _ => ⟨_, rfl, rfl⟩) ?_
  refine sc_gI (t := 5) (i := 0) rfl (fun _ => ⟨_, rfl, rfl⟩) fun v1 => ?_
  exact sc_ret
def C11_fault  : CM Int32 :=
  cb (cG 10 0) fun v1 =>
  cr v1
theorem u_X11_fault {am : AM}  : Sc am id (X11_fault am.1) (C11_fault ) := by
  unfold X11_fault C11_fault
  refine sc_gI (t := 10) (i := 0) rfl (fun _ => ⟨_, rfl, rfl⟩) fun v1 => ?_
  exact sc_ret
def C11_count (a1 : Int32) : CM Int32 :=
  if a1 = (0 : Int32) then (cb (cG 8 0) fun v1 =>
  cb (C11_answer v1) fun v2 =>
  cr v2) else (if a1 = (1 : Int32) then (cb (cG 9 0) fun v3 =>
  cb (C11_answer v3) fun v4 =>
  cr v4) else (if a1 = (2 : Int32) then (cb (cG 2 0) fun v5 =>
  cb (C11_answer v5) fun v6 =>
  cr v6) else (cb (C11_refuse (3 : Int32)) fun v7 =>
  cr v7)))
theorem u_X11_count {am : AM} (a1 : Int32) : Sc am id (X11_count am.1 a1) (C11_count a1) := by
  unfold X11_count C11_count
  refine sc_ite ?_ ?_
  · refine sc_gI (t := 8) (i := 0) rfl (fun _ => ⟨_, rfl, rfl⟩) fun v1 => ?_
    refine sc_wc (q := (5, 0)) (k := id) (fun _ => rfl) rfl (fun _ => ⟨_, rfl⟩) (u_X11_answer v1) fun v2 => ?_
    exact sc_ret
  refine sc_ite ?_ ?_
  · refine sc_gI (t := 9) (i := 0) rfl (fun _ => ⟨_, rfl, rfl⟩) fun v3 => ?_
    refine sc_wc (q := (5, 0)) (k := id) (fun _ => rfl) rfl (fun _ => ⟨_, rfl⟩) (u_X11_answer v3) fun v4 => ?_
    exact sc_ret
  refine sc_ite ?_ ?_
  · refine sc_gR (q := (5, 0)) (b := (am.1 + 1)) (fun _ => rfl) rfl (fun _ => ⟨_, rfl, rfl⟩) ?_
    refine sc_gI (t := 2) (i := 0) rfl (fun _ => ⟨_, rfl, rfl⟩) fun v5 => ?_
    refine sc_wc (q := (5, 0)) (k := id) (fun _ => rfl) rfl (fun _ => ⟨_, rfl⟩) (u_X11_answer v5) fun v6 => ?_
    exact sc_ret
  refine sc_wc (q := (5, 0)) (k := id) (fun _ => rfl) rfl (fun _ => ⟨_, rfl⟩) (u_X11_refuse (3 : Int32)) fun v7 => ?_
  exact sc_ret
def C11_gatherings (a1 : Int32) : CM Int32 :=
  cb (C11_bookAt a1) fun v1 =>
  con v1 (cb (C11_refuse (1 : Int32)) fun v3 =>
  cr v3) (fun i2 =>
  cb (cE (3, i2)) fun _ =>
  cb (cG 6 (i2 + 1)) fun v4 =>
  cb (C11_answer v4) fun v5 =>
  cr v5)
theorem u_X11_gatherings {am : AM} (a1 : Int32) : Sc am id (X11_gatherings am.1 a1) (C11_gatherings a1) := by
  unfold X11_gatherings C11_gatherings
  refine sc_wc (q := (5, 0)) (k := (fun v : Option Nat => v.map (aBo am))) (fun _ => rfl) rfl (fun _ => ⟨_, rfl⟩) (u_X11_bookAt a1) fun v1 => ?_
  refine sc_con (fun e => ?_) (fun i2 e => ?_)
  · refine sc_wc (q := (5, 0)) (k := id) (fun _ => rfl) rfl (fun _ => ⟨_, rfl⟩) (u_X11_refuse (1 : Int32)) fun v3 => ?_
    exact sc_ret
  · subst e
    refine sc_gRd (q := (3, i2)) (b := (aPl am (i2 + 1))) rfl (fun _ => ⟨_, rfl, rfl⟩) ?_
    refine sc_gI (t := 6) (i := (i2 + 1)) rfl (fun _ => ⟨_, rfl, rfl⟩) fun v4 => ?_
    refine sc_wc (q := (5, 0)) (k := id) (fun _ => rfl) rfl (fun _ => ⟨_, rfl⟩) (u_X11_answer v4) fun v5 => ?_
    exact sc_ret
def C0_cutOf_38 (k4 : Nat → Int32 → Int32 → Int32 → CM Int32) (this : Nat) (x1 : Int32) (x2 : Int32) (x3 : Int32) : CM Int32 :=
  (k4 this x1 x2 (x3 + (1 : Int32)))
def C0_cutOf_4_st  (k4 : Nat → Int32 → Int32 → Int32 → CM Int32) (this : Nat) (x1 : Int32) (x2 : Int32) (x3 : Int32) : CM Int32 :=
  cb (cE (3, this)) fun _ =>
  cb (cE (2, (this + 1))) fun _ =>
  cb (C6_sizeOf (this + 1) x1) fun v1 =>
  if v1 < x3 then (cr x2) else (cb (cE (3, this)) fun _ =>
  cb (cE (3, this)) fun _ =>
  cb (cE (2, (this + 1))) fun _ =>
  cb (C6_slotOf (this + 1) x1 x3) fun v2 =>
  cb (cE (2, (this + 1))) fun _ =>
  cb (C6_isCut (this + 1) v2) fun v3 =>
  if v3 = 0 then ((C0_cutOf_38 k4 this x1 x2 x3)) else ((C0_cutOf_38 k4 this x1 (x2 + (1 : Int32)) x3)))
def C0_cutOf_4  : Nat → Nat → Int32 → Int32 → Int32 → CM Int32
  | 0 => fun _ _ _ _ => cf
  | n + 1 => fun this x1 x2 x3 => C0_cutOf_4_st  (C0_cutOf_4  n) this x1 x2 x3
def C0_cutOf (this : Nat) (a1 : Int32) : CM Int32 :=
  (C0_cutOf_4  LFU this a1 (0 : Int32) (1 : Int32))
theorem u_X0_cutOf_38 {am : AM} {k4 : Nat → Int32 → Int32 → Int32 → CM Int32} (K4 : Nat → Int32 → Int32 → Int32 → MM Int32) (hk4 : ∀ (this : Nat) (x1 : Int32) (x2 : Int32) (x3 : Int32), Sc am id (K4 (aBo am this) x1 x2 x3) (k4 this x1 x2 x3)) (this : Nat) (x1 : Int32) (x2 : Int32) (x3 : Int32) : Sc am id (X0_cutOf_38 K4 (aBo am this) x1 x2 x3) (C0_cutOf_38 k4 this x1 x2 x3) := by
  unfold X0_cutOf_38 C0_cutOf_38
  exact hk4 this x1 x2 (x3 + (1 : Int32))
theorem u_X0_cutOf_4_st {am : AM} {k4 : Nat → Int32 → Int32 → Int32 → CM Int32} (K4 : Nat → Int32 → Int32 → Int32 → MM Int32) (hk4 : ∀ (this : Nat) (x1 : Int32) (x2 : Int32) (x3 : Int32), Sc am id (K4 (aBo am this) x1 x2 x3) (k4 this x1 x2 x3)) (this : Nat) (x1 : Int32) (x2 : Int32) (x3 : Int32) : Sc am id (X0_cutOf_4_st  K4 (aBo am this) x1 x2 x3) (C0_cutOf_4_st  k4 this x1 x2 x3) := by
  unfold X0_cutOf_4_st C0_cutOf_4_st
  refine sc_gRd (q := (3, this)) (b := (aPl am (this + 1))) rfl (fun _ => ⟨_, rfl, rfl⟩) ?_
  refine sc_wcd (q := (2, (this + 1))) (k := id) rfl (fun _ => ⟨_, rfl⟩) (u_X6_sizeOf (this + 1) x1) fun v1 => ?_
  refine sc_ite ?_ ?_
  · exact sc_ret
  · refine sc_gRd (q := (3, this)) (b := (aPl am (this + 1))) rfl (fun _ => ⟨_, rfl, rfl⟩) ?_
    refine sc_gRd (q := (3, this)) (b := (aPl am (this + 1))) rfl (fun _ => ⟨_, rfl, rfl⟩) ?_
    refine sc_wcd (q := (2, (this + 1))) (k := id) rfl (fun _ => ⟨_, rfl⟩) (u_X6_slotOf (this + 1) x1 x3) fun v2 => ?_
    refine sc_wcd (q := (2, (this + 1))) (k := id) rfl (fun _ => ⟨_, rfl⟩) (u_X6_isCut (this + 1) v2) fun v3 => ?_
    refine sc_ite ?_ ?_
    · exact u_X0_cutOf_38 _ hk4 this x1 x2 x3
    · exact u_X0_cutOf_38 _ hk4 this x1 (x2 + (1 : Int32)) x3
theorem u_X0_cutOf_4 {am : AM} : ∀ (n : Nat) (this : Nat) (x1 : Int32) (x2 : Int32) (x3 : Int32), Sc am id (X0_cutOf_4  n (aBo am this) x1 x2 x3) (C0_cutOf_4  n this x1 x2 x3) := by
  intro n
  induction n with
  | zero => intro this x1 x2 x3; exact sc_mf
  | succ n ih => intro this x1 x2 x3; exact u_X0_cutOf_4_st  _ ih this x1 x2 x3
theorem u_X0_cutOf {am : AM} (this : Nat) (a1 : Int32) : Sc am id (X0_cutOf (aBo am this) a1) (C0_cutOf this a1) := by
  unfold X0_cutOf C0_cutOf
  exact u_X0_cutOf_4  LFU this a1 (0 : Int32) (1 : Int32)
def C0_leavesOf_17_st  (k17 : Nat → Int32 → Int32 → Int32 → CM Int32) (this : Nat) (x1 : Int32) (x2 : Int32) (x3 : Int32) : CM Int32 :=
  cb (cE (3, this)) fun _ =>
  cb (cE (2, (this + 1))) fun _ =>
  cb (C6_sizeOf (this + 1) x1) fun v1 =>
  if v1 < x3 then (cr x2) else (cb (cE (3, this)) fun _ =>
  cb (cE (3, this)) fun _ =>
  cb (cE (2, (this + 1))) fun _ =>
  cb (C6_slotOf (this + 1) x1 x3) fun v2 =>
  cb (cE (2, (this + 1))) fun _ =>
  cb (C6_insertedAt (this + 1) v2) fun v3 =>
  (k17 this x1 (x2 + v3) (x3 + (1 : Int32))))
def C0_leavesOf_17  : Nat → Nat → Int32 → Int32 → Int32 → CM Int32
  | 0 => fun _ _ _ _ => cf
  | n + 1 => fun this x1 x2 x3 => C0_leavesOf_17_st  (C0_leavesOf_17  n) this x1 x2 x3
def C0_leavesOf (this : Nat) (a1 : Int32) : CM Int32 :=
  cb (cE (3, this)) fun _ =>
  cb (cE (2, (this + 1))) fun _ =>
  cb (C6_sizeOf (this + 1) a1) fun v1 =>
  cb (cE (3, this)) fun _ =>
  cb (C0_cutOf this a1) fun v2 =>
  (C0_leavesOf_17  LFU this a1 (v1 - v2) (1 : Int32))
theorem u_X0_leavesOf_17_st {am : AM} {k17 : Nat → Int32 → Int32 → Int32 → CM Int32} (K17 : Nat → Int32 → Int32 → Int32 → MM Int32) (hk17 : ∀ (this : Nat) (x1 : Int32) (x2 : Int32) (x3 : Int32), Sc am id (K17 (aBo am this) x1 x2 x3) (k17 this x1 x2 x3)) (this : Nat) (x1 : Int32) (x2 : Int32) (x3 : Int32) : Sc am id (X0_leavesOf_17_st  K17 (aBo am this) x1 x2 x3) (C0_leavesOf_17_st  k17 this x1 x2 x3) := by
  unfold X0_leavesOf_17_st C0_leavesOf_17_st
  refine sc_gRd (q := (3, this)) (b := (aPl am (this + 1))) rfl (fun _ => ⟨_, rfl, rfl⟩) ?_
  refine sc_wcd (q := (2, (this + 1))) (k := id) rfl (fun _ => ⟨_, rfl⟩) (u_X6_sizeOf (this + 1) x1) fun v1 => ?_
  refine sc_ite ?_ ?_
  · exact sc_ret
  · refine sc_gRd (q := (3, this)) (b := (aPl am (this + 1))) rfl (fun _ => ⟨_, rfl, rfl⟩) ?_
    refine sc_gRd (q := (3, this)) (b := (aPl am (this + 1))) rfl (fun _ => ⟨_, rfl, rfl⟩) ?_
    refine sc_wcd (q := (2, (this + 1))) (k := id) rfl (fun _ => ⟨_, rfl⟩) (u_X6_slotOf (this + 1) x1 x3) fun v2 => ?_
    refine sc_wcd (q := (2, (this + 1))) (k := id) rfl (fun _ => ⟨_, rfl⟩) (u_X6_insertedAt (this + 1) v2) fun v3 => ?_
    exact hk17 this x1 (x2 + v3) (x3 + (1 : Int32))
theorem u_X0_leavesOf_17 {am : AM} : ∀ (n : Nat) (this : Nat) (x1 : Int32) (x2 : Int32) (x3 : Int32), Sc am id (X0_leavesOf_17  n (aBo am this) x1 x2 x3) (C0_leavesOf_17  n this x1 x2 x3) := by
  intro n
  induction n with
  | zero => intro this x1 x2 x3; exact sc_mf
  | succ n ih => intro this x1 x2 x3; exact u_X0_leavesOf_17_st  _ ih this x1 x2 x3
theorem u_X0_leavesOf {am : AM} (this : Nat) (a1 : Int32) : Sc am id (X0_leavesOf (aBo am this) a1) (C0_leavesOf this a1) := by
  unfold X0_leavesOf C0_leavesOf
  refine sc_gRd (q := (3, this)) (b := (aPl am (this + 1))) rfl (fun _ => ⟨_, rfl, rfl⟩) ?_
  refine sc_wcd (q := (2, (this + 1))) (k := id) rfl (fun _ => ⟨_, rfl⟩) (u_X6_sizeOf (this + 1) a1) fun v1 => ?_
  refine sc_wcd (q := (3, this)) (k := id) rfl (fun _ => ⟨_, rfl⟩) (u_X0_cutOf this a1) fun v2 => ?_
  exact u_X0_leavesOf_17  LFU this a1 (v1 - v2) (1 : Int32)
def C0_aboutGathering (this : Nat) (a1 : Int32) (a2 : Int32) : CM Int32 :=
  cb (cE (3, this)) fun _ =>
  cb (cE (2, (this + 1))) fun _ =>
  cb (C6_signOf (this + 1) a1) fun v1 =>
  if a2 = (0 : Int32) then (cr v1) else (if a2 = (1 : Int32) then (cb (cE (3, this)) fun _ =>
  cb (cE (2, (this + 1))) fun _ =>
  cb (C6_sizeOf (this + 1) v1) fun v2 =>
  cr v2) else (if a2 = (2 : Int32) then (cb (cE (3, this)) fun _ =>
  cb (C0_leavesOf this v1) fun v3 =>
  cr v3) else (cb (cE (3, this)) fun _ =>
  cb (C0_cutOf this v1) fun v4 =>
  cr v4)))
theorem u_X0_aboutGathering {am : AM} (this : Nat) (a1 : Int32) (a2 : Int32) : Sc am id (X0_aboutGathering (aBo am this) a1 a2) (C0_aboutGathering this a1 a2) := by
  unfold X0_aboutGathering C0_aboutGathering
  refine sc_gRd (q := (3, this)) (b := (aPl am (this + 1))) rfl (fun _ => ⟨_, rfl, rfl⟩) ?_
  refine sc_wcd (q := (2, (this + 1))) (k := id) rfl (fun _ => ⟨_, rfl⟩) (u_X6_signOf (this + 1) a1) fun v1 => ?_
  refine sc_ite ?_ ?_
  · exact sc_ret
  refine sc_ite ?_ ?_
  · refine sc_gRd (q := (3, this)) (b := (aPl am (this + 1))) rfl (fun _ => ⟨_, rfl, rfl⟩) ?_
    refine sc_wcd (q := (2, (this + 1))) (k := id) rfl (fun _ => ⟨_, rfl⟩) (u_X6_sizeOf (this + 1) v1) fun v2 => ?_
    exact sc_ret
  refine sc_ite ?_ ?_
  · refine sc_wcd (q := (3, this)) (k := id) rfl (fun _ => ⟨_, rfl⟩) (u_X0_leavesOf this v1) fun v3 => ?_
    exact sc_ret
  refine sc_wcd (q := (3, this)) (k := id) rfl (fun _ => ⟨_, rfl⟩) (u_X0_cutOf this v1) fun v4 => ?_
  exact sc_ret
def C11_gathering_28   : CM Int32 :=
  cb (C11_refuse (1 : Int32)) fun v1 =>
  cr v1
def C11_gathering_43   : CM Int32 :=
  cb (C11_refuse (3 : Int32)) fun v1 =>
  cr v1
def C11_gathering (a1 : Int32) (a2 : Int32) (a3 : Int32) : CM Int32 :=
  cb (C11_bookAt a1) fun v1 =>
  con v1 ((C11_gathering_28  )) (fun i2 =>
  if a2 < 0 then ((C11_gathering_28  )) else (cb (cE (3, i2)) fun _ =>
  cb (cG 6 (i2 + 1)) fun v3 =>
  if a2 < v3 then (if a3 < 0 then ((C11_gathering_43  )) else (if a3 ≤ (3 : Int32) then (cb (cE (3, i2)) fun _ =>
  cb (C0_aboutGathering i2 a2 a3) fun v4 =>
  cb (C11_answer v4) fun v5 =>
  cr v5) else ((C11_gathering_43  )))) else ((C11_gathering_28  ))))
theorem u_X11_gathering_28 {am : AM}  : Sc am id (X11_gathering_28  am.1) (C11_gathering_28  ) := by
  unfold X11_gathering_28 C11_gathering_28
  refine sc_wc (q := (5, 0)) (k := id) (fun _ => rfl) rfl (fun _ => ⟨_, rfl⟩) (u_X11_refuse (1 : Int32)) fun v1 => ?_
  exact sc_ret
theorem u_X11_gathering_43 {am : AM}  : Sc am id (X11_gathering_43  am.1) (C11_gathering_43  ) := by
  unfold X11_gathering_43 C11_gathering_43
  refine sc_wc (q := (5, 0)) (k := id) (fun _ => rfl) rfl (fun _ => ⟨_, rfl⟩) (u_X11_refuse (3 : Int32)) fun v1 => ?_
  exact sc_ret
theorem u_X11_gathering {am : AM} (a1 : Int32) (a2 : Int32) (a3 : Int32) : Sc am id (X11_gathering am.1 a1 a2 a3) (C11_gathering a1 a2 a3) := by
  unfold X11_gathering C11_gathering
  refine sc_wc (q := (5, 0)) (k := (fun v : Option Nat => v.map (aBo am))) (fun _ => rfl) rfl (fun _ => ⟨_, rfl⟩) (u_X11_bookAt a1) fun v1 => ?_
  refine sc_con (fun e => ?_) (fun i2 e => ?_)
  · exact u_X11_gathering_28  
  · subst e
    refine sc_ite ?_ ?_
    · exact u_X11_gathering_28  
    · refine sc_gRd (q := (3, i2)) (b := (aPl am (i2 + 1))) rfl (fun _ => ⟨_, rfl, rfl⟩) ?_
      refine sc_gI (t := 6) (i := (i2 + 1)) rfl (fun _ => ⟨_, rfl, rfl⟩) fun v3 => ?_
      refine sc_ite ?_ ?_
      · refine sc_ite ?_ ?_
        · exact u_X11_gathering_43  
        · refine sc_ite ?_ ?_
          · refine sc_wcd (q := (3, i2)) (k := id) rfl (fun _ => ⟨_, rfl⟩) (u_X0_aboutGathering i2 a2 a3) fun v4 => ?_
            refine sc_wc (q := (5, 0)) (k := id) (fun _ => rfl) rfl (fun _ => ⟨_, rfl⟩) (u_X11_answer v4) fun v5 => ?_
            exact sc_ret
          · exact u_X11_gathering_43  
      · exact u_X11_gathering_28  
def C11_leaves (a1 : Int32) : CM Int32 :=
  cb (C11_bookAt a1) fun v1 =>
  con v1 (cb (C11_refuse (1 : Int32)) fun v3 =>
  cr v3) (fun i2 =>
  cb (cE (3, i2)) fun _ =>
  cb (C0_leafCount i2 ) fun v4 =>
  cb (C11_answer v4) fun v5 =>
  cr v5)
theorem u_X11_leaves {am : AM} (a1 : Int32) : Sc am id (X11_leaves am.1 a1) (C11_leaves a1) := by
  unfold X11_leaves C11_leaves
  refine sc_wc (q := (5, 0)) (k := (fun v : Option Nat => v.map (aBo am))) (fun _ => rfl) rfl (fun _ => ⟨_, rfl⟩) (u_X11_bookAt a1) fun v1 => ?_
  refine sc_con (fun e => ?_) (fun i2 e => ?_)
  · refine sc_wc (q := (5, 0)) (k := id) (fun _ => rfl) rfl (fun _ => ⟨_, rfl⟩) (u_X11_refuse (1 : Int32)) fun v3 => ?_
    exact sc_ret
  · subst e
    refine sc_wcd (q := (3, i2)) (k := id) rfl (fun _ => ⟨_, rfl⟩) (u_X0_leafCount i2 ) fun v4 => ?_
    refine sc_wc (q := (5, 0)) (k := id) (fun _ => rfl) rfl (fun _ => ⟨_, rfl⟩) (u_X11_answer v4) fun v5 => ?_
    exact sc_ret
def C11_bookWithLeaf (a1 : Int32) (a2 : Int32) : CM (Option Nat) :=
  cb (C11_bookAt a1) fun v1 =>
  con v1 (cr none) (fun i2 =>
  if a2 < 0 then (cr none) else (cb (cE (3, i2)) fun _ =>
  cb (C0_leafCount i2 ) fun v3 =>
  if a2 < v3 then (cr (some i2)) else (cr none)))
theorem u_X11_bookWithLeaf {am : AM} (a1 : Int32) (a2 : Int32) : Sc am (fun v : Option Nat => v.map (aBo am)) (X11_bookWithLeaf am.1 a1 a2) (C11_bookWithLeaf a1 a2) := by
  unfold X11_bookWithLeaf C11_bookWithLeaf
  refine sc_wc (q := (5, 0)) (k := (fun v : Option Nat => v.map (aBo am))) (fun _ => rfl) rfl (fun _ => ⟨_, rfl⟩) (u_X11_bookAt a1) fun v1 => ?_
  refine sc_con (fun e => ?_) (fun i2 e => ?_)
  · exact sc_ret (a := none)
  · subst e
    refine sc_ite ?_ ?_
    · exact sc_ret (a := none)
    · refine sc_wcd (q := (3, i2)) (k := id) rfl (fun _ => ⟨_, rfl⟩) (u_X0_leafCount i2 ) fun v3 => ?_
      refine sc_ite ?_ ?_
      · exact sc_ret (a := (some i2))
      · exact sc_ret (a := none)
def C0_aboutLeaf (this : Nat) (a1 : Int32) (a2 : Int32) : CM Int32 :=
  if a2 = (0 : Int32) then (cb (cE (3, this)) fun _ =>
  cb (cE (1, (100 + 4 * this))) fun _ =>
  cb (C8_get (100 + 4 * this) a1) fun v1 =>
  cr v1) else (if a2 = (1 : Int32) then (cb (cE (3, this)) fun _ =>
  cb (cE (1, (101 + 4 * this))) fun _ =>
  cb (C8_get (101 + 4 * this) a1) fun v2 =>
  cr v2) else (if a2 = (2 : Int32) then (cb (cE (3, this)) fun _ =>
  cb (cE (1, (102 + 4 * this))) fun _ =>
  cb (C8_get (102 + 4 * this) a1) fun v3 =>
  cr v3) else (if a2 = (3 : Int32) then (cb (cE (3, this)) fun _ =>
  cb (cE (1, (103 + 4 * this))) fun _ =>
  cb (C8_get (103 + 4 * this) a1) fun v4 =>
  cr v4) else (cb (cE (3, this)) fun _ =>
  cb (C0_conjugateOf this a1) fun v5 =>
  cr v5))))
theorem u_X0_aboutLeaf {am : AM} (this : Nat) (a1 : Int32) (a2 : Int32) : Sc am id (X0_aboutLeaf (aBo am this) a1 a2) (C0_aboutLeaf this a1 a2) := by
  unfold X0_aboutLeaf C0_aboutLeaf
  refine sc_ite ?_ ?_
  · refine sc_gRd (q := (3, this)) (b := (aRo am (100 + 4 * this))) rfl (fun _ => ⟨_, rfl, rfl⟩) ?_
    refine sc_wcd (q := (1, (100 + 4 * this))) (k := id) rfl (fun _ => ⟨_, rfl⟩) (u_X8_get (100 + 4 * this) a1) fun v1 => ?_
    exact sc_ret
  refine sc_ite ?_ ?_
  · refine sc_gRd (q := (3, this)) (b := (aRo am (101 + 4 * this))) rfl (fun _ => ⟨_, rfl, rfl⟩) ?_
    refine sc_wcd (q := (1, (101 + 4 * this))) (k := id) rfl (fun _ => ⟨_, rfl⟩) (u_X8_get (101 + 4 * this) a1) fun v2 => ?_
    exact sc_ret
  refine sc_ite ?_ ?_
  · refine sc_gRd (q := (3, this)) (b := (aRo am (102 + 4 * this))) rfl (fun _ => ⟨_, rfl, rfl⟩) ?_
    refine sc_wcd (q := (1, (102 + 4 * this))) (k := id) rfl (fun _ => ⟨_, rfl⟩) (u_X8_get (102 + 4 * this) a1) fun v3 => ?_
    exact sc_ret
  refine sc_ite ?_ ?_
  · refine sc_gRd (q := (3, this)) (b := (aRo am (103 + 4 * this))) rfl (fun _ => ⟨_, rfl, rfl⟩) ?_
    refine sc_wcd (q := (1, (103 + 4 * this))) (k := id) rfl (fun _ => ⟨_, rfl⟩) (u_X8_get (103 + 4 * this) a1) fun v4 => ?_
    exact sc_ret
  refine sc_wcd (q := (3, this)) (k := id) rfl (fun _ => ⟨_, rfl⟩) (u_X0_conjugateOf this a1) fun v5 => ?_
  exact sc_ret
def C11_leaf_28   : CM Int32 :=
  cb (C11_refuse (3 : Int32)) fun v1 =>
  cr v1
def C11_leaf (a1 : Int32) (a2 : Int32) (a3 : Int32) : CM Int32 :=
  cb (C11_bookWithLeaf a1 a2) fun v1 =>
  con v1 (cb (C11_refuse (1 : Int32)) fun v3 =>
  cr v3) (fun i2 =>
  if a3 < 0 then ((C11_leaf_28  )) else (if a3 ≤ (4 : Int32) then (cb (cE (3, i2)) fun _ =>
  cb (C0_aboutLeaf i2 a2 a3) fun v4 =>
  cb (C11_answer v4) fun v5 =>
  cr v5) else ((C11_leaf_28  ))))
theorem u_X11_leaf_28 {am : AM}  : Sc am id (X11_leaf_28  am.1) (C11_leaf_28  ) := by
  unfold X11_leaf_28 C11_leaf_28
  refine sc_wc (q := (5, 0)) (k := id) (fun _ => rfl) rfl (fun _ => ⟨_, rfl⟩) (u_X11_refuse (3 : Int32)) fun v1 => ?_
  exact sc_ret
theorem u_X11_leaf {am : AM} (a1 : Int32) (a2 : Int32) (a3 : Int32) : Sc am id (X11_leaf am.1 a1 a2 a3) (C11_leaf a1 a2 a3) := by
  unfold X11_leaf C11_leaf
  refine sc_wc (q := (5, 0)) (k := (fun v : Option Nat => v.map (aBo am))) (fun _ => rfl) rfl (fun _ => ⟨_, rfl⟩) (u_X11_bookWithLeaf a1 a2) fun v1 => ?_
  refine sc_con (fun e => ?_) (fun i2 e => ?_)
  · refine sc_wc (q := (5, 0)) (k := id) (fun _ => rfl) rfl (fun _ => ⟨_, rfl⟩) (u_X11_refuse (1 : Int32)) fun v3 => ?_
    exact sc_ret
  · subst e
    refine sc_ite ?_ ?_
    · exact u_X11_leaf_28  
    · refine sc_ite ?_ ?_
      · refine sc_wcd (q := (3, i2)) (k := id) rfl (fun _ => ⟨_, rfl⟩) (u_X0_aboutLeaf i2 a2 a3) fun v4 => ?_
        refine sc_wc (q := (5, 0)) (k := id) (fun _ => rfl) rfl (fun _ => ⟨_, rfl⟩) (u_X11_answer v4) fun v5 => ?_
        exact sc_ret
      · exact u_X11_leaf_28  
def C11_byteOf_12   : CM Int32 :=
  cb (C11_refuse (1 : Int32)) fun v1 =>
  cr v1
def C11_byteOf (a1 : Nat) (a2 : Int32) : CM Int32 :=
  if a2 < 0 then ((C11_byteOf_12  )) else (cb (cSl a1) fun v1 =>
  if a2 < v1 then (cb (cSc a1 a2) fun v2 =>
  cb (C11_answer v2) fun v3 =>
  cr v3) else ((C11_byteOf_12  )))
theorem u_X11_byteOf_12 {am : AM}  : Sc am id (X11_byteOf_12  am.1) (C11_byteOf_12  ) := by
  unfold X11_byteOf_12 C11_byteOf_12
  refine sc_wc (q := (5, 0)) (k := id) (fun _ => rfl) rfl (fun _ => ⟨_, rfl⟩) (u_X11_refuse (1 : Int32)) fun v1 => ?_
  exact sc_ret
theorem u_X11_byteOf {am : AM} (a1 : Nat) (a2 : Int32) : Sc am id (X11_byteOf am.1 (some (aSt am a1)) a2) (C11_byteOf a1 a2) := by
  unfold X11_byteOf C11_byteOf
  refine sc_ite ?_ ?_
  · exact u_X11_byteOf_12  
  · refine sc_cSl fun v1 => ?_
    refine sc_ite ?_ ?_
    · refine sc_cSc fun v2 => ?_
      refine sc_wc (q := (5, 0)) (k := id) (fun _ => rfl) rfl (fun _ => ⟨_, rfl⟩) (u_X11_answer v2) fun v3 => ?_
      exact sc_ret
    · exact u_X11_byteOf_12  
def C11_letter (a1 : Int32) (a2 : Int32) : CM Int32 :=
  cb (C11_bookAt a1) fun v1 =>
  con v1 (cb (C11_refuse (1 : Int32)) fun v3 =>
  cr v3) (fun i2 =>
  cb (cW i2) fun v4 =>
  cb (C11_byteOf v4 a2) fun v5 =>
  cr v5)
theorem u_X11_letter {am : AM} (a1 : Int32) (a2 : Int32) : Sc am id (X11_letter am.1 a1 a2) (C11_letter a1 a2) := by
  unfold X11_letter C11_letter
  refine sc_wc (q := (5, 0)) (k := (fun v : Option Nat => v.map (aBo am))) (fun _ => rfl) rfl (fun _ => ⟨_, rfl⟩) (u_X11_bookAt a1) fun v1 => ?_
  refine sc_con (fun e => ?_) (fun i2 e => ?_)
  · refine sc_wc (q := (5, 0)) (k := id) (fun _ => rfl) rfl (fun _ => ⟨_, rfl⟩) (u_X11_refuse (1 : Int32)) fun v3 => ?_
    exact sc_ret
  · subst e
    refine sc_gW fun v4 => ?_
    refine sc_wc (q := (5, 0)) (k := id) (fun _ => rfl) rfl (fun _ => ⟨_, rfl⟩) (u_X11_byteOf v4 a2) fun v5 => ?_
    exact sc_ret
def C11_same_22   : CM Int32 :=
  cb (C11_refuse (1 : Int32)) fun v1 =>
  cr v1
def C11_same_49  (y0 : Int32) : CM Int32 :=
  cb (C11_answer y0) fun v1 =>
  cr v1
def C11_same (a1 : Int32) (a2 : Int32) : CM Int32 :=
  cb (C11_bookAt a1) fun v1 =>
  cb (C11_bookAt a2) fun v2 =>
  con v1 ((C11_same_22  )) (fun i3 =>
  con v2 ((C11_same_22  )) (fun i4 =>
  cb (cW i3) fun v5 =>
  cb (cW i4) fun v6 =>
  cb (cSq v5 v6) fun v7 =>
  if v7 = 0 then ((C11_same_49  (0 : Int32))) else ((C11_same_49  (1 : Int32)))))
theorem u_X11_same_22 {am : AM}  : Sc am id (X11_same_22  am.1) (C11_same_22  ) := by
  unfold X11_same_22 C11_same_22
  refine sc_wc (q := (5, 0)) (k := id) (fun _ => rfl) rfl (fun _ => ⟨_, rfl⟩) (u_X11_refuse (1 : Int32)) fun v1 => ?_
  exact sc_ret
theorem u_X11_same_49 {am : AM} (y0 : Int32) : Sc am id (X11_same_49  am.1 y0) (C11_same_49  y0) := by
  unfold X11_same_49 C11_same_49
  refine sc_wc (q := (5, 0)) (k := id) (fun _ => rfl) rfl (fun _ => ⟨_, rfl⟩) (u_X11_answer y0) fun v1 => ?_
  exact sc_ret
theorem u_X11_same {am : AM} (a1 : Int32) (a2 : Int32) : Sc am id (X11_same am.1 a1 a2) (C11_same a1 a2) := by
  unfold X11_same C11_same
  refine sc_wc (q := (5, 0)) (k := (fun v : Option Nat => v.map (aBo am))) (fun _ => rfl) rfl (fun _ => ⟨_, rfl⟩) (u_X11_bookAt a1) fun v1 => ?_
  refine sc_wc (q := (5, 0)) (k := (fun v : Option Nat => v.map (aBo am))) (fun _ => rfl) rfl (fun _ => ⟨_, rfl⟩) (u_X11_bookAt a2) fun v2 => ?_
  refine sc_con (fun e => ?_) (fun i3 e => ?_)
  · exact u_X11_same_22  
  · subst e
    refine sc_con (fun e => ?_) (fun i4 e => ?_)
    · exact u_X11_same_22  
    · subst e
      refine sc_gW fun v5 => ?_
      refine sc_gW fun v6 => ?_
      refine sc_cSq fun v7 => ?_
      refine sc_ite ?_ ?_
      · exact u_X11_same_49  (0 : Int32)
      · exact u_X11_same_49  (1 : Int32)
def C11_isFormat (a0 : Int32) : CM Int32 :=
  if a0 = (2 : Int32) then (cr (1 : Int32)) else (if a0 = (4 : Int32) then (cr (1 : Int32)) else (if a0 = (8 : Int32) then (cr (1 : Int32)) else (cr (0 : Int32))))
theorem u_X11_isFormat {am : AM} (a0 : Int32) : Sc am id (X11_isFormat a0) (C11_isFormat a0) := by
  unfold X11_isFormat C11_isFormat
  refine sc_ite ?_ ?_
  · exact sc_ret
  · refine sc_ite ?_ ?_
    · exact sc_ret
    · refine sc_ite ?_ ?_
      · exact sc_ret
      · exact sc_ret
def C0_sheetInGathering (a0 : Int32) (a1 : Int32) (a2 : Int32) : CM Int32 :=
  cb (cdI a2 (2 : Int32)) fun v1 =>
  if (1 : Int32) ≤ v1 then (cb (cdI (if (a1 - a0) < (a0 - (1 : Int32)) then (a1 - a0) else (a0 - (1 : Int32))) v1) fun v2 =>
  cr v2) else (cr (0 : Int32))
theorem u_X0_sheetInGathering {am : AM} (a0 : Int32) (a1 : Int32) (a2 : Int32) : Sc am id (X0_sheetInGathering a0 a1 a2) (C0_sheetInGathering a0 a1 a2) := by
  unfold X0_sheetInGathering C0_sheetInGathering
  refine sc_dI fun v1 => ?_
  refine sc_ite ?_ ?_
  · refine sc_dI fun v2 => ?_
    exact sc_ret
  · exact sc_ret
def C0_sheetsAhead_5_st  (k5 : Nat → Int32 → Int32 → Int32 → Int32 → CM Int32) (this : Nat) (x1 : Int32) (x2 : Int32) (x3 : Int32) (x4 : Int32) : CM Int32 :=
  if x1 ≤ x4 then (cr x3) else (cb (cE (3, this)) fun _ =>
  cb (cE (3, this)) fun _ =>
  cb (cE (2, (this + 1))) fun _ =>
  cb (C6_signOf (this + 1) x4) fun v1 =>
  cb (cE (2, (this + 1))) fun _ =>
  cb (C6_sizeOf (this + 1) v1) fun v2 =>
  cb (cdI (v2 + (1 : Int32)) (2 : Int32)) fun v3 =>
  cb (C0_sheetInGathering v3 v2 x2) fun v4 =>
  (k5 this x1 x2 (x3 + (v4 + (1 : Int32))) (x4 + (1 : Int32))))
def C0_sheetsAhead_5  : Nat → Nat → Int32 → Int32 → Int32 → Int32 → CM Int32
  | 0 => fun _ _ _ _ _ => cf
  | n + 1 => fun this x1 x2 x3 x4 => C0_sheetsAhead_5_st  (C0_sheetsAhead_5  n) this x1 x2 x3 x4
def C0_sheetsAhead (this : Nat) (a1 : Int32) (a2 : Int32) : CM Int32 :=
  (C0_sheetsAhead_5  LFU this a1 a2 (0 : Int32) (0 : Int32))
theorem u_X0_sheetsAhead_5_st {am : AM} {k5 : Nat → Int32 → Int32 → Int32 → Int32 → CM Int32} (K5 : Nat → Int32 → Int32 → Int32 → Int32 → MM Int32) (hk5 : ∀ (this : Nat) (x1 : Int32) (x2 : Int32) (x3 : Int32) (x4 : Int32), Sc am id (K5 (aBo am this) x1 x2 x3 x4) (k5 this x1 x2 x3 x4)) (this : Nat) (x1 : Int32) (x2 : Int32) (x3 : Int32) (x4 : Int32) : Sc am id (X0_sheetsAhead_5_st  K5 (aBo am this) x1 x2 x3 x4) (C0_sheetsAhead_5_st  k5 this x1 x2 x3 x4) := by
  unfold X0_sheetsAhead_5_st C0_sheetsAhead_5_st
  refine sc_ite ?_ ?_
  · exact sc_ret
  · refine sc_gRd (q := (3, this)) (b := (aPl am (this + 1))) rfl (fun _ => ⟨_, rfl, rfl⟩) ?_
    refine sc_gRd (q := (3, this)) (b := (aPl am (this + 1))) rfl (fun _ => ⟨_, rfl, rfl⟩) ?_
    refine sc_wcd (q := (2, (this + 1))) (k := id) rfl (fun _ => ⟨_, rfl⟩) (u_X6_signOf (this + 1) x4) fun v1 => ?_
    refine sc_wcd (q := (2, (this + 1))) (k := id) rfl (fun _ => ⟨_, rfl⟩) (u_X6_sizeOf (this + 1) v1) fun v2 => ?_
    refine sc_dI fun v3 => ?_
    refine sc_cal (k := id) (u_X0_sheetInGathering v3 v2 x2) fun v4 => ?_
    exact hk5 this x1 x2 (x3 + (v4 + (1 : Int32))) (x4 + (1 : Int32))
theorem u_X0_sheetsAhead_5 {am : AM} : ∀ (n : Nat) (this : Nat) (x1 : Int32) (x2 : Int32) (x3 : Int32) (x4 : Int32), Sc am id (X0_sheetsAhead_5  n (aBo am this) x1 x2 x3 x4) (C0_sheetsAhead_5  n this x1 x2 x3 x4) := by
  intro n
  induction n with
  | zero => intro this x1 x2 x3 x4; exact sc_mf
  | succ n ih => intro this x1 x2 x3 x4; exact u_X0_sheetsAhead_5_st  _ ih this x1 x2 x3 x4
theorem u_X0_sheetsAhead {am : AM} (this : Nat) (a1 : Int32) (a2 : Int32) : Sc am id (X0_sheetsAhead (aBo am this) a1 a2) (C0_sheetsAhead this a1 a2) := by
  unfold X0_sheetsAhead C0_sheetsAhead
  exact u_X0_sheetsAhead_5  LFU this a1 a2 (0 : Int32) (0 : Int32)
def C11_sheets (a1 : Int32) (a2 : Int32) : CM Int32 :=
  cb (C11_bookAt a1) fun v1 =>
  con v1 (cb (C11_refuse (1 : Int32)) fun v3 =>
  cr v3) (fun i2 =>
  cb (C11_isFormat a2) fun v4 =>
  if v4 = 0 then (cb (C11_refuse (3 : Int32)) fun v5 =>
  cr v5) else (cb (cE (3, i2)) fun _ =>
  cb (cG 6 (i2 + 1)) fun v6 =>
  cb (cE (3, i2)) fun _ =>
  cb (C0_sheetsAhead i2 v6 a2) fun v7 =>
  cb (C11_answer v7) fun v8 =>
  cr v8))
theorem u_X11_sheets {am : AM} (a1 : Int32) (a2 : Int32) : Sc am id (X11_sheets am.1 a1 a2) (C11_sheets a1 a2) := by
  unfold X11_sheets C11_sheets
  refine sc_wc (q := (5, 0)) (k := (fun v : Option Nat => v.map (aBo am))) (fun _ => rfl) rfl (fun _ => ⟨_, rfl⟩) (u_X11_bookAt a1) fun v1 => ?_
  refine sc_con (fun e => ?_) (fun i2 e => ?_)
  · refine sc_wc (q := (5, 0)) (k := id) (fun _ => rfl) rfl (fun _ => ⟨_, rfl⟩) (u_X11_refuse (1 : Int32)) fun v3 => ?_
    exact sc_ret
  · subst e
    refine sc_cal (k := id) (u_X11_isFormat a2) fun v4 => ?_
    refine sc_ite ?_ ?_
    · refine sc_wc (q := (5, 0)) (k := id) (fun _ => rfl) rfl (fun _ => ⟨_, rfl⟩) (u_X11_refuse (3 : Int32)) fun v5 => ?_
      exact sc_ret
    · refine sc_gRd (q := (3, i2)) (b := (aPl am (i2 + 1))) rfl (fun _ => ⟨_, rfl, rfl⟩) ?_
      refine sc_gI (t := 6) (i := (i2 + 1)) rfl (fun _ => ⟨_, rfl, rfl⟩) fun v6 => ?_
      refine sc_wcd (q := (3, i2)) (k := id) rfl (fun _ => ⟨_, rfl⟩) (u_X0_sheetsAhead i2 v6 a2) fun v7 => ?_
      refine sc_wc (q := (5, 0)) (k := id) (fun _ => rfl) rfl (fun _ => ⟨_, rfl⟩) (u_X11_answer v7) fun v8 => ?_
      exact sc_ret
def C0_sheetOf (this : Nat) (a1 : Int32) (a2 : Int32) : CM Int32 :=
  cb (cE (3, this)) fun _ =>
  cb (cE (1, (102 + 4 * this))) fun _ =>
  cb (C8_get (102 + 4 * this) a1) fun v1 =>
  if v1 = 0 then (cb (cE (3, this)) fun _ =>
  cb (cE (3, this)) fun _ =>
  cb (C0_signAt this a1) fun v2 =>
  cb (cE (2, (this + 1))) fun _ =>
  cb (C6_sizeOf (this + 1) v2) fun v3 =>
  cb (cE (3, this)) fun _ =>
  cb (cE (1, (100 + 4 * this))) fun _ =>
  cb (C8_get (100 + 4 * this) a1) fun v4 =>
  cb (cE (3, this)) fun _ =>
  cb (C0_sheetsAhead this v4 a2) fun v5 =>
  cb (cE (3, this)) fun _ =>
  cb (cE (1, (101 + 4 * this))) fun _ =>
  cb (C8_get (101 + 4 * this) a1) fun v6 =>
  cb (C0_sheetInGathering v6 v3 a2) fun v7 =>
  cr (v5 + v7)) else (cr (-1 : Int32))
theorem u_X0_sheetOf {am : AM} (this : Nat) (a1 : Int32) (a2 : Int32) : Sc am id (X0_sheetOf (aBo am this) a1 a2) (C0_sheetOf this a1 a2) := by
  unfold X0_sheetOf C0_sheetOf
  refine sc_gRd (q := (3, this)) (b := (aRo am (102 + 4 * this))) rfl (fun _ => ⟨_, rfl, rfl⟩) ?_
  refine sc_wcd (q := (1, (102 + 4 * this))) (k := id) rfl (fun _ => ⟨_, rfl⟩) (u_X8_get (102 + 4 * this) a1) fun v1 => ?_
  refine sc_ite ?_ ?_
  · refine sc_gRd (q := (3, this)) (b := (aPl am (this + 1))) rfl (fun _ => ⟨_, rfl, rfl⟩) ?_
    refine sc_wcd (q := (3, this)) (k := id) rfl (fun _ => ⟨_, rfl⟩) (u_X0_signAt this a1) fun v2 => ?_
    refine sc_wcd (q := (2, (this + 1))) (k := id) rfl (fun _ => ⟨_, rfl⟩) (u_X6_sizeOf (this + 1) v2) fun v3 => ?_
    refine sc_gRd (q := (3, this)) (b := (aRo am (100 + 4 * this))) rfl (fun _ => ⟨_, rfl, rfl⟩) ?_
    refine sc_wcd (q := (1, (100 + 4 * this))) (k := id) rfl (fun _ => ⟨_, rfl⟩) (u_X8_get (100 + 4 * this) a1) fun v4 => ?_
    refine sc_wcd (q := (3, this)) (k := id) rfl (fun _ => ⟨_, rfl⟩) (u_X0_sheetsAhead this v4 a2) fun v5 => ?_
    refine sc_gRd (q := (3, this)) (b := (aRo am (101 + 4 * this))) rfl (fun _ => ⟨_, rfl, rfl⟩) ?_
    refine sc_wcd (q := (1, (101 + 4 * this))) (k := id) rfl (fun _ => ⟨_, rfl⟩) (u_X8_get (101 + 4 * this) a1) fun v6 => ?_
    refine sc_cal (k := id) (u_X0_sheetInGathering v6 v3 a2) fun v7 => ?_
    exact sc_ret
  · exact sc_ret
def C0_numberOnSheet_73 (k51 : Int32 → Int32 → Int32 → Int32 → Int32 → Int32 → CM Int32) (x2 : Int32) (x3 : Int32) (x4 : Int32) (x5 : Int32) (x6 : Int32) (x7 : Int32) : CM Int32 :=
  (k51 x2 x3 x4 x5 x6 (x7 + (1 : Int32)))
def C0_numberOnSheet_51_st  (k51 : Int32 → Int32 → Int32 → Int32 → Int32 → Int32 → CM Int32) (x2 : Int32) (x3 : Int32) (x4 : Int32) (x5 : Int32) (x6 : Int32) (x7 : Int32) : CM Int32 :=
  if x4 < x7 then (cr x6) else (cb (C0_sheetInGathering x7 x3 x2) fun v1 =>
  if v1 = x5 then ((C0_numberOnSheet_73 k51 x2 x3 x4 x5 (x6 + (1 : Int32)) x7)) else ((C0_numberOnSheet_73 k51 x2 x3 x4 x5 x6 x7)))
def C0_numberOnSheet_51  : Nat → Int32 → Int32 → Int32 → Int32 → Int32 → Int32 → CM Int32
  | 0 => fun _ _ _ _ _ _ => cf
  | n + 1 => fun x2 x3 x4 x5 x6 x7 => C0_numberOnSheet_51_st  (C0_numberOnSheet_51  n) x2 x3 x4 x5 x6 x7
def C0_numberOnSheet (this : Nat) (a1 : Int32) (a2 : Int32) : CM Int32 :=
  cb (cE (3, this)) fun _ =>
  cb (cE (1, (102 + 4 * this))) fun _ =>
  cb (C8_get (102 + 4 * this) a1) fun v1 =>
  if v1 = 0 then (cb (cE (3, this)) fun _ =>
  cb (cE (3, this)) fun _ =>
  cb (C0_signAt this a1) fun v2 =>
  cb (cE (2, (this + 1))) fun _ =>
  cb (C6_sizeOf (this + 1) v2) fun v3 =>
  cb (cE (3, this)) fun _ =>
  cb (cE (1, (101 + 4 * this))) fun _ =>
  cb (C8_get (101 + 4 * this) a1) fun v4 =>
  cb (C0_sheetInGathering v4 v3 a2) fun v5 =>
  (C0_numberOnSheet_51  LFU a2 v3 v4 v5 (0 : Int32) (1 : Int32))) else (cr (-1 : Int32))
theorem u_X0_numberOnSheet_73 {am : AM} {k51 : Int32 → Int32 → Int32 → Int32 → Int32 → Int32 → CM Int32} (K51 : Int32 → Int32 → Int32 → Int32 → Int32 → Int32 → MM Int32) (hk51 : ∀ (x2 : Int32) (x3 : Int32) (x4 : Int32) (x5 : Int32) (x6 : Int32) (x7 : Int32), Sc am id (K51 x2 x3 x4 x5 x6 x7) (k51 x2 x3 x4 x5 x6 x7)) (x2 : Int32) (x3 : Int32) (x4 : Int32) (x5 : Int32) (x6 : Int32) (x7 : Int32) : Sc am id (X0_numberOnSheet_73 K51 x2 x3 x4 x5 x6 x7) (C0_numberOnSheet_73 k51 x2 x3 x4 x5 x6 x7) := by
  unfold X0_numberOnSheet_73 C0_numberOnSheet_73
  exact hk51 x2 x3 x4 x5 x6 (x7 + (1 : Int32))
theorem u_X0_numberOnSheet_51_st {am : AM} {k51 : Int32 → Int32 → Int32 → Int32 → Int32 → Int32 → CM Int32} (K51 : Int32 → Int32 → Int32 → Int32 → Int32 → Int32 → MM Int32) (hk51 : ∀ (x2 : Int32) (x3 : Int32) (x4 : Int32) (x5 : Int32) (x6 : Int32) (x7 : Int32), Sc am id (K51 x2 x3 x4 x5 x6 x7) (k51 x2 x3 x4 x5 x6 x7)) (x2 : Int32) (x3 : Int32) (x4 : Int32) (x5 : Int32) (x6 : Int32) (x7 : Int32) : Sc am id (X0_numberOnSheet_51_st  K51 x2 x3 x4 x5 x6 x7) (C0_numberOnSheet_51_st  k51 x2 x3 x4 x5 x6 x7) := by
  unfold X0_numberOnSheet_51_st C0_numberOnSheet_51_st
  refine sc_ite ?_ ?_
  · exact sc_ret
  · refine sc_cal (k := id) (u_X0_sheetInGathering x7 x3 x2) fun v1 => ?_
    refine sc_ite ?_ ?_
    · exact u_X0_numberOnSheet_73 _ hk51 x2 x3 x4 x5 (x6 + (1 : Int32)) x7
    · exact u_X0_numberOnSheet_73 _ hk51 x2 x3 x4 x5 x6 x7
theorem u_X0_numberOnSheet_51 {am : AM} : ∀ (n : Nat) (x2 : Int32) (x3 : Int32) (x4 : Int32) (x5 : Int32) (x6 : Int32) (x7 : Int32), Sc am id (X0_numberOnSheet_51  n x2 x3 x4 x5 x6 x7) (C0_numberOnSheet_51  n x2 x3 x4 x5 x6 x7) := by
  intro n
  induction n with
  | zero => intro x2 x3 x4 x5 x6 x7; exact sc_mf
  | succ n ih => intro x2 x3 x4 x5 x6 x7; exact u_X0_numberOnSheet_51_st  _ ih x2 x3 x4 x5 x6 x7
theorem u_X0_numberOnSheet {am : AM} (this : Nat) (a1 : Int32) (a2 : Int32) : Sc am id (X0_numberOnSheet (aBo am this) a1 a2) (C0_numberOnSheet this a1 a2) := by
  unfold X0_numberOnSheet C0_numberOnSheet
  refine sc_gRd (q := (3, this)) (b := (aRo am (102 + 4 * this))) rfl (fun _ => ⟨_, rfl, rfl⟩) ?_
  refine sc_wcd (q := (1, (102 + 4 * this))) (k := id) rfl (fun _ => ⟨_, rfl⟩) (u_X8_get (102 + 4 * this) a1) fun v1 => ?_
  refine sc_ite ?_ ?_
  · refine sc_gRd (q := (3, this)) (b := (aPl am (this + 1))) rfl (fun _ => ⟨_, rfl, rfl⟩) ?_
    refine sc_wcd (q := (3, this)) (k := id) rfl (fun _ => ⟨_, rfl⟩) (u_X0_signAt this a1) fun v2 => ?_
    refine sc_wcd (q := (2, (this + 1))) (k := id) rfl (fun _ => ⟨_, rfl⟩) (u_X6_sizeOf (this + 1) v2) fun v3 => ?_
    refine sc_gRd (q := (3, this)) (b := (aRo am (101 + 4 * this))) rfl (fun _ => ⟨_, rfl, rfl⟩) ?_
    refine sc_wcd (q := (1, (101 + 4 * this))) (k := id) rfl (fun _ => ⟨_, rfl⟩) (u_X8_get (101 + 4 * this) a1) fun v4 => ?_
    refine sc_cal (k := id) (u_X0_sheetInGathering v4 v3 a2) fun v5 => ?_
    exact u_X0_numberOnSheet_51  LFU a2 v3 v4 v5 (0 : Int32) (1 : Int32)
  · exact sc_ret
def C11_sheet_37   : CM Int32 :=
  cb (C11_refuse (3 : Int32)) fun v1 =>
  cr v1
def C11_sheet_66  (y0 : Int32) : CM Int32 :=
  cb (C11_answer y0) fun v1 =>
  cr v1
def C11_sheet (a1 : Int32) (a2 : Int32) (a3 : Int32) (a4 : Int32) : CM Int32 :=
  cb (C11_bookWithLeaf a1 a2) fun v1 =>
  con v1 (cb (C11_refuse (1 : Int32)) fun v3 =>
  cr v3) (fun i2 =>
  cb (C11_isFormat a3) fun v4 =>
  if v4 = 0 then ((C11_sheet_37  )) else (if a4 < 0 then ((C11_sheet_37  )) else (if a4 ≤ (1 : Int32) then (if a4 = 0 then (cb (cE (3, i2)) fun _ =>
  cb (C0_sheetOf i2 a2 a3) fun v5 =>
  (C11_sheet_66  v5)) else (cb (cE (3, i2)) fun _ =>
  cb (C0_numberOnSheet i2 a2 a3) fun v6 =>
  (C11_sheet_66  v6))) else ((C11_sheet_37  )))))
theorem u_X11_sheet_37 {am : AM}  : Sc am id (X11_sheet_37  am.1) (C11_sheet_37  ) := by
  unfold X11_sheet_37 C11_sheet_37
  refine sc_wc (q := (5, 0)) (k := id) (fun _ => rfl) rfl (fun _ => ⟨_, rfl⟩) (u_X11_refuse (3 : Int32)) fun v1 => ?_
  exact sc_ret
theorem u_X11_sheet_66 {am : AM} (y0 : Int32) : Sc am id (X11_sheet_66  am.1 y0) (C11_sheet_66  y0) := by
  unfold X11_sheet_66 C11_sheet_66
  refine sc_wc (q := (5, 0)) (k := id) (fun _ => rfl) rfl (fun _ => ⟨_, rfl⟩) (u_X11_answer y0) fun v1 => ?_
  exact sc_ret
theorem u_X11_sheet {am : AM} (a1 : Int32) (a2 : Int32) (a3 : Int32) (a4 : Int32) : Sc am id (X11_sheet am.1 a1 a2 a3 a4) (C11_sheet a1 a2 a3 a4) := by
  unfold X11_sheet C11_sheet
  refine sc_wc (q := (5, 0)) (k := (fun v : Option Nat => v.map (aBo am))) (fun _ => rfl) rfl (fun _ => ⟨_, rfl⟩) (u_X11_bookWithLeaf a1 a2) fun v1 => ?_
  refine sc_con (fun e => ?_) (fun i2 e => ?_)
  · refine sc_wc (q := (5, 0)) (k := id) (fun _ => rfl) rfl (fun _ => ⟨_, rfl⟩) (u_X11_refuse (1 : Int32)) fun v3 => ?_
    exact sc_ret
  · subst e
    refine sc_cal (k := id) (u_X11_isFormat a3) fun v4 => ?_
    refine sc_ite ?_ ?_
    · exact u_X11_sheet_37  
    · refine sc_ite ?_ ?_
      · exact u_X11_sheet_37  
      · refine sc_ite ?_ ?_
        · refine sc_ite ?_ ?_
          · refine sc_wcd (q := (3, i2)) (k := id) rfl (fun _ => ⟨_, rfl⟩) (u_X0_sheetOf i2 a2 a3) fun v5 => ?_
            exact u_X11_sheet_66  v5
          · refine sc_wcd (q := (3, i2)) (k := id) rfl (fun _ => ⟨_, rfl⟩) (u_X0_numberOnSheet i2 a2 a3) fun v6 => ?_
            exact u_X11_sheet_66  v6
        · exact u_X11_sheet_37  
def C0_formeOf_40  (x5 : Int32) (y0 : Int32) : CM Int32 :=
  if x5 = y0 then (cr (0 : Int32)) else (cr (1 : Int32))
def C0_formeOf_29  (x2 : Int32) (y0 : Int32) : CM Int32 :=
  if x2 = 0 then ((C0_formeOf_40  y0 (1 : Int32))) else ((C0_formeOf_40  y0 (0 : Int32)))
def C0_formeOf (this : Nat) (a1 : Int32) (a2 : Int32) (a3 : Int32) : CM Int32 :=
  cb (cE (3, this)) fun _ =>
  cb (C0_numberOnSheet this a1 a3) fun v1 =>
  if v1 = (-1 : Int32) then (cr (-1 : Int32)) else (cb (crI v1 (2 : Int32)) fun v2 =>
  if v2 = (1 : Int32) then ((C0_formeOf_29  a2 (1 : Int32))) else ((C0_formeOf_29  a2 (0 : Int32))))
theorem u_X0_formeOf_40 {am : AM} (x5 : Int32) (y0 : Int32) : Sc am id (X0_formeOf_40  x5 y0) (C0_formeOf_40  x5 y0) := by
  unfold X0_formeOf_40 C0_formeOf_40
  refine sc_ite ?_ ?_
  · exact sc_ret
  · exact sc_ret
theorem u_X0_formeOf_29 {am : AM} (x2 : Int32) (y0 : Int32) : Sc am id (X0_formeOf_29  x2 y0) (C0_formeOf_29  x2 y0) := by
  unfold X0_formeOf_29 C0_formeOf_29
  refine sc_ite ?_ ?_
  · exact u_X0_formeOf_40  y0 (1 : Int32)
  · exact u_X0_formeOf_40  y0 (0 : Int32)
theorem u_X0_formeOf {am : AM} (this : Nat) (a1 : Int32) (a2 : Int32) (a3 : Int32) : Sc am id (X0_formeOf (aBo am this) a1 a2 a3) (C0_formeOf this a1 a2 a3) := by
  unfold X0_formeOf C0_formeOf
  refine sc_wcd (q := (3, this)) (k := id) rfl (fun _ => ⟨_, rfl⟩) (u_X0_numberOnSheet this a1 a3) fun v1 => ?_
  refine sc_ite ?_ ?_
  · exact sc_ret
  · refine sc_rI fun v2 => ?_
    refine sc_ite ?_ ?_
    · exact u_X0_formeOf_29  a2 (1 : Int32)
    · exact u_X0_formeOf_29  a2 (0 : Int32)
def C11_forme_36   : CM Int32 :=
  cb (C11_refuse (3 : Int32)) fun v1 =>
  cr v1
def C11_forme (a1 : Int32) (a2 : Int32) (a3 : Int32) (a4 : Int32) : CM Int32 :=
  cb (C11_bookWithLeaf a1 a2) fun v1 =>
  con v1 (cb (C11_refuse (1 : Int32)) fun v3 =>
  cr v3) (fun i2 =>
  cb (C11_isFormat a4) fun v4 =>
  if v4 = 0 then ((C11_forme_36  )) else (if a3 < 0 then ((C11_forme_36  )) else (if a3 ≤ (1 : Int32) then (cb (cE (3, i2)) fun _ =>
  cb (C0_formeOf i2 a2 a3 a4) fun v5 =>
  cb (C11_answer v5) fun v6 =>
  cr v6) else ((C11_forme_36  )))))
theorem u_X11_forme_36 {am : AM}  : Sc am id (X11_forme_36  am.1) (C11_forme_36  ) := by
  unfold X11_forme_36 C11_forme_36
  refine sc_wc (q := (5, 0)) (k := id) (fun _ => rfl) rfl (fun _ => ⟨_, rfl⟩) (u_X11_refuse (3 : Int32)) fun v1 => ?_
  exact sc_ret
theorem u_X11_forme {am : AM} (a1 : Int32) (a2 : Int32) (a3 : Int32) (a4 : Int32) : Sc am id (X11_forme am.1 a1 a2 a3 a4) (C11_forme a1 a2 a3 a4) := by
  unfold X11_forme C11_forme
  refine sc_wc (q := (5, 0)) (k := (fun v : Option Nat => v.map (aBo am))) (fun _ => rfl) rfl (fun _ => ⟨_, rfl⟩) (u_X11_bookWithLeaf a1 a2) fun v1 => ?_
  refine sc_con (fun e => ?_) (fun i2 e => ?_)
  · refine sc_wc (q := (5, 0)) (k := id) (fun _ => rfl) rfl (fun _ => ⟨_, rfl⟩) (u_X11_refuse (1 : Int32)) fun v3 => ?_
    exact sc_ret
  · subst e
    refine sc_cal (k := id) (u_X11_isFormat a4) fun v4 => ?_
    refine sc_ite ?_ ?_
    · exact u_X11_forme_36  
    · refine sc_ite ?_ ?_
      · exact u_X11_forme_36  
      · refine sc_ite ?_ ?_
        · refine sc_wcd (q := (3, i2)) (k := id) rfl (fun _ => ⟨_, rfl⟩) (u_X0_formeOf i2 a2 a3 a4) fun v5 => ?_
          refine sc_wc (q := (5, 0)) (k := id) (fun _ => rfl) rfl (fun _ => ⟨_, rfl⟩) (u_X11_answer v5) fun v6 => ?_
          exact sc_ret
        · exact u_X11_forme_36  
def C11_copyAt (a1 : Int32) : CM (Option Nat) :=
  if a1 < 0 then (cr none) else (cb (cG 9 0) fun v1 =>
  if v1 ≤ a1 then (cr none) else (if a1 < (16 : Int32) then (cb (cCk a1) fun v2 =>
  cr v2) else (cr none)))
theorem u_X11_copyAt {am : AM} (a1 : Int32) : Sc am (fun v : Option Nat => v.map (aCo am)) (X11_copyAt am.1 a1) (C11_copyAt a1) := by
  unfold X11_copyAt C11_copyAt
  refine sc_ite ?_ ?_
  · exact sc_ret (a := none)
  · refine sc_gI (t := 9) (i := 0) rfl (fun _ => ⟨_, rfl, rfl⟩) fun v1 => ?_
    refine sc_ite ?_ ?_
    · exact sc_ret (a := none)
    · refine sc_gR (q := (5, 0)) (b := (am.1 + 45)) (fun _ => rfl) rfl (fun _ => ⟨_, rfl, rfl⟩) ?_
      refine sc_aNC ?_
      refine sc_ite ?_ ?_
      · refine sc_gR (q := (5, 0)) (b := (am.1 + 45)) (fun _ => rfl) rfl (fun _ => ⟨_, rfl, rfl⟩) ?_
        refine sc_aRC fun v2 => ?_
        exact sc_ret (a := v2)
      · exact sc_ret (a := none)
def C2_rowOf (this : Nat) (a1 : Int32) : CM (Option Nat) :=
  if a1 = (1 : Int32) then (cb (cE (4, this)) fun _ =>
  cr (some (200 + 5 * this))) else (if a1 = (2 : Int32) then (cb (cE (4, this)) fun _ =>
  cr (some (201 + 5 * this))) else (if a1 = (3 : Int32) then (cb (cE (4, this)) fun _ =>
  cr (some (202 + 5 * this))) else (if a1 = (4 : Int32) then (cb (cE (4, this)) fun _ =>
  cr (some (203 + 5 * this))) else (if a1 = (5 : Int32) then (cb (cE (4, this)) fun _ =>
  cr (some (204 + 5 * this))) else (cr none)))))
theorem u_X2_rowOf {am : AM} (this : Nat) (a1 : Int32) : Sc am (fun v : Option Nat => v.map (aRo am)) (X2_rowOf (aCo am this) a1) (C2_rowOf this a1) := by
  unfold X2_rowOf C2_rowOf
  refine sc_ite ?_ ?_
  · refine sc_gRd (q := (4, this)) (b := (aRo am (200 + 5 * this))) rfl (fun _ => ⟨_, rfl, rfl⟩) ?_
    exact sc_ret (a := (some (200 + 5 * this)))
  refine sc_ite ?_ ?_
  · refine sc_gRd (q := (4, this)) (b := (aRo am (201 + 5 * this))) rfl (fun _ => ⟨_, rfl, rfl⟩) ?_
    exact sc_ret (a := (some (201 + 5 * this)))
  refine sc_ite ?_ ?_
  · refine sc_gRd (q := (4, this)) (b := (aRo am (202 + 5 * this))) rfl (fun _ => ⟨_, rfl, rfl⟩) ?_
    exact sc_ret (a := (some (202 + 5 * this)))
  refine sc_ite ?_ ?_
  · refine sc_gRd (q := (4, this)) (b := (aRo am (203 + 5 * this))) rfl (fun _ => ⟨_, rfl, rfl⟩) ?_
    exact sc_ret (a := (some (203 + 5 * this)))
  refine sc_ite ?_ ?_
  · refine sc_gRd (q := (4, this)) (b := (aRo am (204 + 5 * this))) rfl (fun _ => ⟨_, rfl, rfl⟩) ?_
    exact sc_ret (a := (some (204 + 5 * this)))
  exact sc_ret (a := none)
def C11_state (a1 : Int32) (a2 : Int32) : CM Int32 :=
  cb (C11_copyAt a1) fun v1 =>
  con v1 (cb (C11_refuse (1 : Int32)) fun v3 =>
  cr v3) (fun i2 =>
  if a2 = 0 then (cb (cG 12 i2) fun v4 =>
  cb (C11_answer v4) fun v5 =>
  cr v5) else (cb (cE (4, i2)) fun _ =>
  cb (C2_rowOf i2 a2) fun v6 =>
  con v6 (cb (C11_refuse (3 : Int32)) fun v8 =>
  cr v8) (fun i7 =>
  cb (cG 1 i7) fun v9 =>
  cb (C11_answer v9) fun v10 =>
  cr v10)))
theorem u_X11_state {am : AM} (a1 : Int32) (a2 : Int32) : Sc am id (X11_state am.1 a1 a2) (C11_state a1 a2) := by
  unfold X11_state C11_state
  refine sc_wc (q := (5, 0)) (k := (fun v : Option Nat => v.map (aCo am))) (fun _ => rfl) rfl (fun _ => ⟨_, rfl⟩) (u_X11_copyAt a1) fun v1 => ?_
  refine sc_con (fun e => ?_) (fun i2 e => ?_)
  · refine sc_wc (q := (5, 0)) (k := id) (fun _ => rfl) rfl (fun _ => ⟨_, rfl⟩) (u_X11_refuse (1 : Int32)) fun v3 => ?_
    exact sc_ret
  · subst e
    refine sc_ite ?_ ?_
    · refine sc_gI (t := 12) (i := i2) rfl (fun _ => ⟨_, rfl, rfl⟩) fun v4 => ?_
      refine sc_wc (q := (5, 0)) (k := id) (fun _ => rfl) rfl (fun _ => ⟨_, rfl⟩) (u_X11_answer v4) fun v5 => ?_
      exact sc_ret
    · refine sc_wcd (q := (4, i2)) (k := (fun v : Option Nat => v.map (aRo am))) rfl (fun _ => ⟨_, rfl⟩) (u_X2_rowOf i2 a2) fun v6 => ?_
      refine sc_con (fun e => ?_) (fun i7 e => ?_)
      · refine sc_wc (q := (5, 0)) (k := id) (fun _ => rfl) rfl (fun _ => ⟨_, rfl⟩) (u_X11_refuse (3 : Int32)) fun v8 => ?_
        exact sc_ret
      · subst e
        refine sc_gI (t := 1) (i := i7) rfl (fun _ => ⟨_, rfl, rfl⟩) fun v9 => ?_
        refine sc_wc (q := (5, 0)) (k := id) (fun _ => rfl) rfl (fun _ => ⟨_, rfl⟩) (u_X11_answer v9) fun v10 => ?_
        exact sc_ret
def C11_numberOf_12   : CM Int32 :=
  cb (C11_refuse (1 : Int32)) fun v1 =>
  cr v1
def C11_numberOf (a1 : Nat) (a2 : Int32) : CM Int32 :=
  if a2 < 0 then ((C11_numberOf_12  )) else (cb (cG 1 a1) fun v1 =>
  if a2 < v1 then (cb (cE (1, a1)) fun _ =>
  cb (C8_get a1 a2) fun v2 =>
  cb (C11_answer v2) fun v3 =>
  cr v3) else ((C11_numberOf_12  )))
theorem u_X11_numberOf_12 {am : AM}  : Sc am id (X11_numberOf_12  am.1) (C11_numberOf_12  ) := by
  unfold X11_numberOf_12 C11_numberOf_12
  refine sc_wc (q := (5, 0)) (k := id) (fun _ => rfl) rfl (fun _ => ⟨_, rfl⟩) (u_X11_refuse (1 : Int32)) fun v1 => ?_
  exact sc_ret
theorem u_X11_numberOf {am : AM} (a1 : Nat) (a2 : Int32) : Sc am id (X11_numberOf am.1 (some (aRo am a1)) a2) (C11_numberOf a1 a2) := by
  unfold X11_numberOf C11_numberOf
  refine sc_ite ?_ ?_
  · exact u_X11_numberOf_12  
  · refine sc_gI (t := 1) (i := a1) rfl (fun _ => ⟨_, rfl, rfl⟩) fun v1 => ?_
    refine sc_ite ?_ ?_
    · refine sc_wcd (q := (1, a1)) (k := id) rfl (fun _ => ⟨_, rfl⟩) (u_X8_get a1 a2) fun v2 => ?_
      refine sc_wc (q := (5, 0)) (k := id) (fun _ => rfl) rfl (fun _ => ⟨_, rfl⟩) (u_X11_answer v2) fun v3 => ?_
      exact sc_ret
    · exact u_X11_numberOf_12  
def C11_entry (a1 : Int32) (a2 : Int32) : CM Int32 :=
  cb (C11_copyAt a1) fun v1 =>
  con v1 (cb (C11_refuse (1 : Int32)) fun v3 =>
  cr v3) (fun i2 =>
  cb (cE (4, i2)) fun _ =>
  cb (C11_numberOf (200 + 5 * i2) a2) fun v4 =>
  cr v4)
theorem u_X11_entry {am : AM} (a1 : Int32) (a2 : Int32) : Sc am id (X11_entry am.1 a1 a2) (C11_entry a1 a2) := by
  unfold X11_entry C11_entry
  refine sc_wc (q := (5, 0)) (k := (fun v : Option Nat => v.map (aCo am))) (fun _ => rfl) rfl (fun _ => ⟨_, rfl⟩) (u_X11_copyAt a1) fun v1 => ?_
  refine sc_con (fun e => ?_) (fun i2 e => ?_)
  · refine sc_wc (q := (5, 0)) (k := id) (fun _ => rfl) rfl (fun _ => ⟨_, rfl⟩) (u_X11_refuse (1 : Int32)) fun v3 => ?_
    exact sc_ret
  · subst e
    refine sc_gRd (q := (4, i2)) (b := (aRo am (200 + 5 * i2))) rfl (fun _ => ⟨_, rfl, rfl⟩) ?_
    refine sc_wc (q := (5, 0)) (k := id) (fun _ => rfl) rfl (fun _ => ⟨_, rfl⟩) (u_X11_numberOf (200 + 5 * i2) a2) fun v4 => ?_
    exact sc_ret
def C11_told_33  (x3 : Int32) (y0 : Option Nat) : CM Int32 :=
  con y0 (cb (C11_refuse (3 : Int32)) fun v2 =>
  cr v2) (fun i1 =>
  cb (C11_numberOf i1 x3) fun v3 =>
  cr v3)
def C11_told (a1 : Int32) (a2 : Int32) (a3 : Int32) : CM Int32 :=
  cb (C11_copyAt a1) fun v1 =>
  con v1 (cb (C11_refuse (1 : Int32)) fun v3 =>
  cr v3) (fun i2 =>
  if (2 : Int32) ≤ a2 then (cb (cE (4, i2)) fun _ =>
  cb (C2_rowOf i2 a2) fun v4 =>
  (C11_told_33  a3 v4)) else ((C11_told_33  a3 none)))
theorem u_X11_told_33 {am : AM} (x3 : Int32) (y0 : Option Nat) : Sc am id (X11_told_33  am.1 x3 (y0.map (aRo am))) (C11_told_33  x3 y0) := by
  unfold X11_told_33 C11_told_33
  refine sc_con (fun e => ?_) (fun i1 e => ?_)
  · refine sc_wc (q := (5, 0)) (k := id) (fun _ => rfl) rfl (fun _ => ⟨_, rfl⟩) (u_X11_refuse (3 : Int32)) fun v2 => ?_
    exact sc_ret
  · subst e
    refine sc_wc (q := (5, 0)) (k := id) (fun _ => rfl) rfl (fun _ => ⟨_, rfl⟩) (u_X11_numberOf i1 x3) fun v3 => ?_
    exact sc_ret
theorem u_X11_told {am : AM} (a1 : Int32) (a2 : Int32) (a3 : Int32) : Sc am id (X11_told am.1 a1 a2 a3) (C11_told a1 a2 a3) := by
  unfold X11_told C11_told
  refine sc_wc (q := (5, 0)) (k := (fun v : Option Nat => v.map (aCo am))) (fun _ => rfl) rfl (fun _ => ⟨_, rfl⟩) (u_X11_copyAt a1) fun v1 => ?_
  refine sc_con (fun e => ?_) (fun i2 e => ?_)
  · refine sc_wc (q := (5, 0)) (k := id) (fun _ => rfl) rfl (fun _ => ⟨_, rfl⟩) (u_X11_refuse (1 : Int32)) fun v3 => ?_
    exact sc_ret
  · subst e
    refine sc_ite ?_ ?_
    · refine sc_wcd (q := (4, i2)) (k := (fun v : Option Nat => v.map (aRo am))) rfl (fun _ => ⟨_, rfl⟩) (u_X2_rowOf i2 a2) fun v4 => ?_
      exact u_X11_told_33  a3 v4
    · exact u_X11_told_33  a3 none
def C11_note (a1 : Int32) (a2 : Int32) : CM Int32 :=
  cb (C11_copyAt a1) fun v1 =>
  con v1 (cb (C11_refuse (1 : Int32)) fun v3 =>
  cr v3) (fun i2 =>
  cb (cT i2) fun v4 =>
  cb (C11_byteOf v4 a2) fun v5 =>
  cr v5)
theorem u_X11_note {am : AM} (a1 : Int32) (a2 : Int32) : Sc am id (X11_note am.1 a1 a2) (C11_note a1 a2) := by
  unfold X11_note C11_note
  refine sc_wc (q := (5, 0)) (k := (fun v : Option Nat => v.map (aCo am))) (fun _ => rfl) rfl (fun _ => ⟨_, rfl⟩) (u_X11_copyAt a1) fun v1 => ?_
  refine sc_con (fun e => ?_) (fun i2 e => ?_)
  · refine sc_wc (q := (5, 0)) (k := id) (fun _ => rfl) rfl (fun _ => ⟨_, rfl⟩) (u_X11_refuse (1 : Int32)) fun v3 => ?_
    exact sc_ret
  · subst e
    refine sc_gT fun v4 => ?_
    refine sc_wc (q := (5, 0)) (k := id) (fun _ => rfl) rfl (fun _ => ⟨_, rfl⟩) (u_X11_byteOf v4 a2) fun v5 => ?_
    exact sc_ret
def C1_markBoth_42_st  (k42 : Nat → Int32 → CM Unit) (x2 : Nat) (x3 : Int32) : CM Unit :=
  cb (cE (4, x2)) fun _ =>
  cb (cG 1 (200 + 5 * x2)) fun v1 =>
  if v1 ≤ x3 then (cr ()) else (cb (cE (4, x2)) fun _ =>
  cb (cE (1, (200 + 5 * x2))) fun _ =>
  cb (C8_get (200 + 5 * x2) x3) fun v2 =>
  cb (C1_markAt v2) fun v3 =>
  cb (C1_setMark v2 (v3 ||| (2 : Int32))) fun _ =>
  (k42 x2 (x3 + (1 : Int32))))
def C1_markBoth_42  : Nat → Nat → Int32 → CM Unit
  | 0 => fun _ _ => cf
  | n + 1 => fun x2 x3 => C1_markBoth_42_st  (C1_markBoth_42  n) x2 x3
def C1_markBoth_40  (x2 : Nat) : CM Unit :=
  (C1_markBoth_42  LFU x2 (0 : Int32))
def C1_markBoth_10_st  (k10 : Nat → Nat → Int32 → CM Unit) (x1 : Nat) (x2 : Nat) (x3 : Int32) : CM Unit :=
  cb (cE (4, x1)) fun _ =>
  cb (cG 1 (200 + 5 * x1)) fun v1 =>
  if v1 ≤ x3 then ((C1_markBoth_40  x2)) else (cb (cE (4, x1)) fun _ =>
  cb (cE (1, (200 + 5 * x1))) fun _ =>
  cb (C8_get (200 + 5 * x1) x3) fun v2 =>
  cb (C1_setMark v2 (1 : Int32)) fun _ =>
  (k10 x1 x2 (x3 + (1 : Int32))))
def C1_markBoth_10  : Nat → Nat → Nat → Int32 → CM Unit
  | 0 => fun _ _ _ => cf
  | n + 1 => fun x1 x2 x3 => C1_markBoth_10_st  (C1_markBoth_10  n) x1 x2 x3
def C1_markBoth (a1 : Nat) (a2 : Nat) : CM Unit :=
  cb (cFi 8 0 false (0 : Int32)) fun _ =>
  (C1_markBoth_10  LFU a1 a2 (0 : Int32))
theorem u_X1_markBoth_42_st {am : AM} {k42 : Nat → Int32 → CM Unit} (K42 : Nat → Option Nat → Int32 → MM Unit) (hk42 : ∀ (x2 : Nat) (x3 : Int32), Sc am id (K42 (am.1 + 37) (some (aCo am x2)) x3) (k42 x2 x3)) (x2 : Nat) (x3 : Int32) : Sc am id (X1_markBoth_42_st  K42 (am.1 + 37) (some (aCo am x2)) x3) (C1_markBoth_42_st  k42 x2 x3) := by
  unfold X1_markBoth_42_st C1_markBoth_42_st
  refine sc_gRd (q := (4, x2)) (b := (aRo am (200 + 5 * x2))) rfl (fun _ => ⟨_, rfl, rfl⟩) ?_
  refine sc_gI (t := 1) (i := (200 + 5 * x2)) rfl (fun _ => ⟨_, rfl, rfl⟩) fun v1 => ?_
  refine sc_ite ?_ ?_
  · exact sc_ret
  · refine sc_gRd (q := (4, x2)) (b := (aRo am (200 + 5 * x2))) rfl (fun _ => ⟨_, rfl, rfl⟩) ?_
    refine sc_wcd (q := (1, (200 + 5 * x2))) (k := id) rfl (fun _ => ⟨_, rfl⟩) (u_X8_get (200 + 5 * x2) x3) fun v2 => ?_
    refine sc_wc (q := (10, 0)) (k := id) (fun _ => rfl) rfl (fun _ => ⟨_, rfl⟩) (u_X1_markAt v2) fun v3 => ?_
    refine sc_wc (q := (10, 0)) (k := id) (fun _ => rfl) rfl (fun _ => ⟨_, rfl⟩) (u_X1_setMark v2 (v3 ||| (2 : Int32))) fun _ => ?_
    exact hk42 x2 (x3 + (1 : Int32))
theorem u_X1_markBoth_42 {am : AM} : ∀ (n : Nat) (x2 : Nat) (x3 : Int32), Sc am id (X1_markBoth_42  n (am.1 + 37) (some (aCo am x2)) x3) (C1_markBoth_42  n x2 x3) := by
  intro n
  induction n with
  | zero => intro x2 x3; exact sc_mf
  | succ n ih => intro x2 x3; exact u_X1_markBoth_42_st  _ ih x2 x3
theorem u_X1_markBoth_40 {am : AM} (x2 : Nat) : Sc am id (X1_markBoth_40  (am.1 + 37) (some (aCo am x2))) (C1_markBoth_40  x2) := by
  unfold X1_markBoth_40 C1_markBoth_40
  exact u_X1_markBoth_42  LFU x2 (0 : Int32)
theorem u_X1_markBoth_10_st {am : AM} {k10 : Nat → Nat → Int32 → CM Unit} (K10 : Nat → Option Nat → Option Nat → Int32 → MM Unit) (hk10 : ∀ (x1 : Nat) (x2 : Nat) (x3 : Int32), Sc am id (K10 (am.1 + 37) (some (aCo am x1)) (some (aCo am x2)) x3) (k10 x1 x2 x3)) (x1 : Nat) (x2 : Nat) (x3 : Int32) : Sc am id (X1_markBoth_10_st  K10 (am.1 + 37) (some (aCo am x1)) (some (aCo am x2)) x3) (C1_markBoth_10_st  k10 x1 x2 x3) := by
  unfold X1_markBoth_10_st C1_markBoth_10_st
  refine sc_gRd (q := (4, x1)) (b := (aRo am (200 + 5 * x1))) rfl (fun _ => ⟨_, rfl, rfl⟩) ?_
  refine sc_gI (t := 1) (i := (200 + 5 * x1)) rfl (fun _ => ⟨_, rfl, rfl⟩) fun v1 => ?_
  refine sc_ite ?_ ?_
  · exact u_X1_markBoth_40  x2
  · refine sc_gRd (q := (4, x1)) (b := (aRo am (200 + 5 * x1))) rfl (fun _ => ⟨_, rfl, rfl⟩) ?_
    refine sc_wcd (q := (1, (200 + 5 * x1))) (k := id) rfl (fun _ => ⟨_, rfl⟩) (u_X8_get (200 + 5 * x1) x3) fun v2 => ?_
    refine sc_wc (q := (10, 0)) (k := id) (fun _ => rfl) rfl (fun _ => ⟨_, rfl⟩) (u_X1_setMark v2 (1 : Int32)) fun _ => ?_
    exact hk10 x1 x2 (x3 + (1 : Int32))
theorem u_X1_markBoth_10 {am : AM} : ∀ (n : Nat) (x1 : Nat) (x2 : Nat) (x3 : Int32), Sc am id (X1_markBoth_10  n (am.1 + 37) (some (aCo am x1)) (some (aCo am x2)) x3) (C1_markBoth_10  n x1 x2 x3) := by
  intro n
  induction n with
  | zero => intro x1 x2 x3; exact sc_mf
  | succ n ih => intro x1 x2 x3; exact u_X1_markBoth_10_st  _ ih x1 x2 x3
theorem u_X1_markBoth {am : AM} (a1 : Nat) (a2 : Nat) : Sc am id (X1_markBoth (am.1 + 37) (some (aCo am a1)) (some (aCo am a2))) (C1_markBoth a1 a2) := by
  unfold X1_markBoth C1_markBoth
  refine sc_gR (q := (10, 0)) (b := (aAr am 8 0)) (fun _ => rfl) rfl (fun _ => ⟨_, rfl, rfl⟩) ?_
  refine sc_fiI (t := 8) (i := 0) ?_
  exact u_X1_markBoth_10  LFU a1 a2 (0 : Int32)
def C1_countApart_46 (k11 : Nat → Int32 → Int32 → CM Int32) (x1 : Nat) (x3 : Int32) (x4 : Int32) : CM Int32 :=
  (k11 x1 x3 (x4 + (1 : Int32)))
def C1_countApart_43 (k11 : Nat → Int32 → Int32 → CM Int32) (x1 : Nat) (x3 : Int32) (x4 : Int32) : CM Int32 :=
  (C1_countApart_46 k11 x1 (x3 + (1 : Int32)) x4)
def C1_countApart_11_st  (k11 : Nat → Int32 → Int32 → CM Int32) (x1 : Nat) (x3 : Int32) (x4 : Int32) : CM Int32 :=
  cb (cR x1) fun v1 =>
  cb (cE (3, v1)) fun _ =>
  cb (C0_leafCount v1 ) fun v2 =>
  if v2 ≤ x4 then (cr x3) else (cb (C1_markAt x4) fun v3 =>
  if v3 = (1 : Int32) then ((C1_countApart_43 k11 x1 x3 x4)) else (cb (C1_markAt x4) fun v4 =>
  if v4 = (2 : Int32) then ((C1_countApart_43 k11 x1 x3 x4)) else ((C1_countApart_46 k11 x1 x3 x4))))
def C1_countApart_11  : Nat → Nat → Int32 → Int32 → CM Int32
  | 0 => fun _ _ _ => cf
  | n + 1 => fun x1 x3 x4 => C1_countApart_11_st  (C1_countApart_11  n) x1 x3 x4
def C1_countApart (a1 : Nat) (a2 : Nat) : CM Int32 :=
  cb (C1_markBoth a1 a2) fun _ =>
  (C1_countApart_11  LFU a1 (0 : Int32) (0 : Int32))
theorem u_X1_countApart_46 {am : AM} {k11 : Nat → Int32 → Int32 → CM Int32} (K11 : Nat → Option Nat → Int32 → Int32 → MM Int32) (hk11 : ∀ (x1 : Nat) (x3 : Int32) (x4 : Int32), Sc am id (K11 (am.1 + 37) (some (aCo am x1)) x3 x4) (k11 x1 x3 x4)) (x1 : Nat) (x3 : Int32) (x4 : Int32) : Sc am id (X1_countApart_46 K11 (am.1 + 37) (some (aCo am x1)) x3 x4) (C1_countApart_46 k11 x1 x3 x4) := by
  unfold X1_countApart_46 C1_countApart_46
  exact hk11 x1 x3 (x4 + (1 : Int32))
theorem u_X1_countApart_43 {am : AM} {k11 : Nat → Int32 → Int32 → CM Int32} (K11 : Nat → Option Nat → Int32 → Int32 → MM Int32) (hk11 : ∀ (x1 : Nat) (x3 : Int32) (x4 : Int32), Sc am id (K11 (am.1 + 37) (some (aCo am x1)) x3 x4) (k11 x1 x3 x4)) (x1 : Nat) (x3 : Int32) (x4 : Int32) : Sc am id (X1_countApart_43 K11 (am.1 + 37) (some (aCo am x1)) x3 x4) (C1_countApart_43 k11 x1 x3 x4) := by
  unfold X1_countApart_43 C1_countApart_43
  exact u_X1_countApart_46 _ hk11 x1 (x3 + (1 : Int32)) x4
theorem u_X1_countApart_11_st {am : AM} {k11 : Nat → Int32 → Int32 → CM Int32} (K11 : Nat → Option Nat → Int32 → Int32 → MM Int32) (hk11 : ∀ (x1 : Nat) (x3 : Int32) (x4 : Int32), Sc am id (K11 (am.1 + 37) (some (aCo am x1)) x3 x4) (k11 x1 x3 x4)) (x1 : Nat) (x3 : Int32) (x4 : Int32) : Sc am id (X1_countApart_11_st  K11 (am.1 + 37) (some (aCo am x1)) x3 x4) (C1_countApart_11_st  k11 x1 x3 x4) := by
  unfold X1_countApart_11_st C1_countApart_11_st
  refine sc_gS fun v1 => ?_
  refine sc_wcd (q := (3, v1)) (k := id) rfl (fun _ => ⟨_, rfl⟩) (u_X0_leafCount v1 ) fun v2 => ?_
  refine sc_ite ?_ ?_
  · exact sc_ret
  · refine sc_wc (q := (10, 0)) (k := id) (fun _ => rfl) rfl (fun _ => ⟨_, rfl⟩) (u_X1_markAt x4) fun v3 => ?_
    refine sc_ite ?_ ?_
    · exact u_X1_countApart_43 _ hk11 x1 x3 x4
    · refine sc_wc (q := (10, 0)) (k := id) (fun _ => rfl) rfl (fun _ => ⟨_, rfl⟩) (u_X1_markAt x4) fun v4 => ?_
      refine sc_ite ?_ ?_
      · exact u_X1_countApart_43 _ hk11 x1 x3 x4
      · exact u_X1_countApart_46 _ hk11 x1 x3 x4
theorem u_X1_countApart_11 {am : AM} : ∀ (n : Nat) (x1 : Nat) (x3 : Int32) (x4 : Int32), Sc am id (X1_countApart_11  n (am.1 + 37) (some (aCo am x1)) x3 x4) (C1_countApart_11  n x1 x3 x4) := by
  intro n
  induction n with
  | zero => intro x1 x3 x4; exact sc_mf
  | succ n ih => intro x1 x3 x4; exact u_X1_countApart_11_st  _ ih x1 x3 x4
theorem u_X1_countApart {am : AM} (a1 : Nat) (a2 : Nat) : Sc am id (X1_countApart (am.1 + 37) (some (aCo am a1)) (some (aCo am a2))) (C1_countApart a1 a2) := by
  unfold X1_countApart C1_countApart
  refine sc_wc (q := (10, 0)) (k := id) (fun _ => rfl) rfl (fun _ => ⟨_, rfl⟩) (u_X1_markBoth a1 a2) fun _ => ?_
  exact u_X1_countApart_11  LFU a1 (0 : Int32) (0 : Int32)
def C11_apart_22   : CM Int32 :=
  cb (C11_refuse (1 : Int32)) fun v1 =>
  cr v1
def C11_apart (a1 : Int32) (a2 : Int32) : CM Int32 :=
  cb (C11_copyAt a1) fun v1 =>
  cb (C11_copyAt a2) fun v2 =>
  con v1 ((C11_apart_22  )) (fun i3 =>
  con v2 ((C11_apart_22  )) (fun i4 =>
  cb (cG 12 i3) fun v5 =>
  cb (cG 12 i4) fun v6 =>
  if v5 = v6 then (cb (C1_countApart i3 i4) fun v7 =>
  cb (C11_answer v7) fun v8 =>
  cr v8) else (cb (C11_refuse (4 : Int32)) fun v9 =>
  cr v9)))
theorem u_X11_apart_22 {am : AM}  : Sc am id (X11_apart_22  am.1) (C11_apart_22  ) := by
  unfold X11_apart_22 C11_apart_22
  refine sc_wc (q := (5, 0)) (k := id) (fun _ => rfl) rfl (fun _ => ⟨_, rfl⟩) (u_X11_refuse (1 : Int32)) fun v1 => ?_
  exact sc_ret
theorem u_X11_apart {am : AM} (a1 : Int32) (a2 : Int32) : Sc am id (X11_apart am.1 a1 a2) (C11_apart a1 a2) := by
  unfold X11_apart C11_apart
  refine sc_wc (q := (5, 0)) (k := (fun v : Option Nat => v.map (aCo am))) (fun _ => rfl) rfl (fun _ => ⟨_, rfl⟩) (u_X11_copyAt a1) fun v1 => ?_
  refine sc_wc (q := (5, 0)) (k := (fun v : Option Nat => v.map (aCo am))) (fun _ => rfl) rfl (fun _ => ⟨_, rfl⟩) (u_X11_copyAt a2) fun v2 => ?_
  refine sc_con (fun e => ?_) (fun i3 e => ?_)
  · exact u_X11_apart_22  
  · subst e
    refine sc_con (fun e => ?_) (fun i4 e => ?_)
    · exact u_X11_apart_22  
    · subst e
      refine sc_gI (t := 12) (i := i3) rfl (fun _ => ⟨_, rfl, rfl⟩) fun v5 => ?_
      refine sc_gI (t := 12) (i := i4) rfl (fun _ => ⟨_, rfl, rfl⟩) fun v6 => ?_
      refine sc_ite ?_ ?_
      · refine sc_gR (q := (5, 0)) (b := (am.1 + 37)) (fun _ => rfl) rfl (fun _ => ⟨_, rfl, rfl⟩) ?_
        refine sc_wc (q := (10, 0)) (k := id) (fun _ => rfl) rfl (fun _ => ⟨_, rfl⟩) (u_X1_countApart i3 i4) fun v7 => ?_
        refine sc_wc (q := (5, 0)) (k := id) (fun _ => rfl) rfl (fun _ => ⟨_, rfl⟩) (u_X11_answer v7) fun v8 => ?_
        exact sc_ret
      · refine sc_wc (q := (5, 0)) (k := id) (fun _ => rfl) rfl (fun _ => ⟨_, rfl⟩) (u_X11_refuse (4 : Int32)) fun v9 => ?_
        exact sc_ret
def C1_listTogether_41 (k13 : Nat → Nat → Int32 → CM Unit) (x1 : Nat) (x3 : Nat) (x4 : Int32) : CM Unit :=
  (k13 x1 x3 (x4 + (1 : Int32)))
def C1_listTogether_13_st  (k13 : Nat → Nat → Int32 → CM Unit) (x1 : Nat) (x3 : Nat) (x4 : Int32) : CM Unit :=
  cb (cR x1) fun v1 =>
  cb (cE (3, v1)) fun _ =>
  cb (C0_leafCount v1 ) fun v2 =>
  if v2 ≤ x4 then (cr ()) else (cb (C1_markAt x4) fun v3 =>
  if v3 = 0 then ((C1_listTogether_41 k13 x1 x3 x4)) else (cb (cE (1, x3)) fun _ =>
  cb (C8_add x3 x4) fun v4 =>
  (C1_listTogether_41 k13 x1 x3 x4)))
def C1_listTogether_13  : Nat → Nat → Nat → Int32 → CM Unit
  | 0 => fun _ _ _ => cf
  | n + 1 => fun x1 x3 x4 => C1_listTogether_13_st  (C1_listTogether_13  n) x1 x3 x4
def C1_listTogether (a1 : Nat) (a2 : Nat) (a3 : Nat) : CM Unit :=
  cb (C1_markBoth a1 a2) fun _ =>
  cb (cE (1, a3)) fun _ =>
  cb (C8_clear a3 ) fun _ =>
  (C1_listTogether_13  LFU a1 a3 (0 : Int32))
theorem u_X1_listTogether_41 {am : AM} {k13 : Nat → Nat → Int32 → CM Unit} (K13 : Nat → Option Nat → Option Nat → Int32 → MM Unit) (hk13 : ∀ (x1 : Nat) (x3 : Nat) (x4 : Int32), Sc am id (K13 (am.1 + 37) (some (aCo am x1)) (some (aRo am x3)) x4) (k13 x1 x3 x4)) (x1 : Nat) (x3 : Nat) (x4 : Int32) : Sc am id (X1_listTogether_41 K13 (am.1 + 37) (some (aCo am x1)) (some (aRo am x3)) x4) (C1_listTogether_41 k13 x1 x3 x4) := by
  unfold X1_listTogether_41 C1_listTogether_41
  exact hk13 x1 x3 (x4 + (1 : Int32))
theorem u_X1_listTogether_13_st {am : AM} {k13 : Nat → Nat → Int32 → CM Unit} (K13 : Nat → Option Nat → Option Nat → Int32 → MM Unit) (hk13 : ∀ (x1 : Nat) (x3 : Nat) (x4 : Int32), Sc am id (K13 (am.1 + 37) (some (aCo am x1)) (some (aRo am x3)) x4) (k13 x1 x3 x4)) (x1 : Nat) (x3 : Nat) (x4 : Int32) : Sc am id (X1_listTogether_13_st  K13 (am.1 + 37) (some (aCo am x1)) (some (aRo am x3)) x4) (C1_listTogether_13_st  k13 x1 x3 x4) := by
  unfold X1_listTogether_13_st C1_listTogether_13_st
  refine sc_gS fun v1 => ?_
  refine sc_wcd (q := (3, v1)) (k := id) rfl (fun _ => ⟨_, rfl⟩) (u_X0_leafCount v1 ) fun v2 => ?_
  refine sc_ite ?_ ?_
  · exact sc_ret
  · refine sc_wc (q := (10, 0)) (k := id) (fun _ => rfl) rfl (fun _ => ⟨_, rfl⟩) (u_X1_markAt x4) fun v3 => ?_
    refine sc_ite ?_ ?_
    · exact u_X1_listTogether_41 _ hk13 x1 x3 x4
    · refine sc_wcd (q := (1, x3)) (k := id) rfl (fun _ => ⟨_, rfl⟩) (u_X8_add x3 x4) fun v4 => ?_
      exact u_X1_listTogether_41 _ hk13 x1 x3 x4
theorem u_X1_listTogether_13 {am : AM} : ∀ (n : Nat) (x1 : Nat) (x3 : Nat) (x4 : Int32), Sc am id (X1_listTogether_13  n (am.1 + 37) (some (aCo am x1)) (some (aRo am x3)) x4) (C1_listTogether_13  n x1 x3 x4) := by
  intro n
  induction n with
  | zero => intro x1 x3 x4; exact sc_mf
  | succ n ih => intro x1 x3 x4; exact u_X1_listTogether_13_st  _ ih x1 x3 x4
theorem u_X1_listTogether {am : AM} (a1 : Nat) (a2 : Nat) (a3 : Nat) : Sc am id (X1_listTogether (am.1 + 37) (some (aCo am a1)) (some (aCo am a2)) (some (aRo am a3))) (C1_listTogether a1 a2 a3) := by
  unfold X1_listTogether C1_listTogether
  refine sc_wc (q := (10, 0)) (k := id) (fun _ => rfl) rfl (fun _ => ⟨_, rfl⟩) (u_X1_markBoth a1 a2) fun _ => ?_
  refine sc_wcd (q := (1, a3)) (k := id) rfl (fun _ => ⟨_, rfl⟩) (u_X8_clear a3 ) fun _ => ?_
  exact u_X1_listTogether_13  LFU a1 a3 (0 : Int32)
def C11_status  : CM Int32 :=
  cb (cG 11 0) fun v1 =>
  cr v1
theorem u_X11_status {am : AM}  : Sc am id (X11_status am.1) (C11_status ) := by
  unfold X11_status C11_status
  refine sc_gI (t := 11) (i := 0) rfl (fun _ => ⟨_, rfl, rfl⟩) fun v1 => ?_
  exact sc_ret
