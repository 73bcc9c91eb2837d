/-! ===== the start: objects made one behind the other ===== -/
/-- a heap with fresh cells from x on -/
def hl (x u : Nat) (rf : Nat → Option Nat) (f : Nat → va_E) (l : List va_E) : AH := (x + l.length, u, (fun a => if a < x then f a else l.getD (a - x) (.inr (15, []))), rf)
section HLS
variable {α β : Type} {x u n b c N ci ci2 k t : Nat} {rf : Nat → Option Nat} {f : Nat → va_E} {l l1 l2 R : List va_E} {fs fs2 : List Value} {o o' e d : va_E} {c32 : Int32}
theorem gd_at : ∀ {l1 : List va_E}, (l1 ++ o :: l2).getD l1.length d = o
  | [] => rfl
  | _ :: l1 => gd_at (l1 := l1)
theorem gd_ne : ∀ {l1 : List va_E} {j : Nat}, j ≠ l1.length → (l1 ++ o :: l2).getD j d = (l1 ++ o' :: l2).getD j d
  | [], 0, h => absurd rfl h
  | [], j + 1, _ => rfl
  | _ :: l1, 0, _ => rfl
  | _ :: l1, j + 1, h => gd_ne (l1 := l1) (j := j) (fun q => h (congrArg (· + 1) q))
theorem gd_sn : ∀ {l : List va_E} {j : Nat}, (l ++ [e]).getD j d = if j = l.length then e else l.getD j d
  | [], 0 => rfl
  | [], j + 1 => (if_neg (Nat.succ_ne_zero j)).symm
  | _ :: l, 0 => (if_neg (fun q => by cases q)).symm
  | a :: l, j + 1 => by
    have := gd_sn (l := l) (j := j)
    show (l ++ [e]).getD j d = _
    rw [this]
    by_cases h : j = l.length
    · exact (if_pos h).trans (if_pos (show j + 1 = (a :: l).length from congrArg (· + 1) h)).symm
    · exact (if_neg h).trans (if_neg (show ¬ j + 1 = (a :: l).length from fun q => h (Nat.succ.inj q))).symm
theorem hl_hn : hn (hl x u rf f l) n e = hl x (u + n) rf f (l ++ [e]) := by
  unfold hn hl
  refine Prod.ext (by show x + l.length + 1 = x + (l ++ [e]).length; rw [List.length_append]; rfl) (Prod.ext rfl (Prod.ext (funext fun a => ?_) rfl))
  show (if a = x + l.length then e else if a < x then f a else l.getD (a - x) (.inr (15, []))) = if a < x then f a else (l ++ [e]).getD (a - x) (.inr (15, []))
  rw [gd_sn]
  by_cases h : a < x
  · rw [if_neg (by omega), if_pos h, if_pos h]
  · rw [if_neg h, if_neg h]
    by_cases h2 : a = x + l.length
    · rw [if_pos h2, if_pos (by omega)]
    · rw [if_neg h2, if_neg (by omega)]
theorem hl_ce (hb : b = x + l1.length) : ce (hl x u rf f (l1 ++ o :: l2)) b = o := by
  show (if b < x then f b else (l1 ++ o :: l2).getD (b - x) (.inr (15, []))) = o
  rw [if_neg (by omega), show b - x = l1.length by omega, gd_at]
theorem hl_hs (hb : b = x + l1.length) : hs (hl x u rf f (l1 ++ o :: l2)) b o' = hl x u rf f (l1 ++ o' :: l2) := by
  unfold hs hl
  refine Prod.ext (by show x + (l1 ++ o :: l2).length = x + (l1 ++ o' :: l2).length; rw [List.length_append, List.length_append]; rfl) (Prod.ext rfl (Prod.ext (funext fun a => ?_) rfl))
  show (if a = b then o' else if a < x then f a else (l1 ++ o :: l2).getD (a - x) (.inr (15, []))) = if a < x then f a else (l1 ++ o' :: l2).getD (a - x) (.inr (15, []))
  by_cases h : a = b
  · rw [if_pos h, if_neg (by omega), show a - x = l1.length by omega, gd_at]
  · rw [if_neg h]
    by_cases h2 : a < x
    · rw [if_pos h2, if_pos h2]
    · rw [if_neg h2, if_neg h2]
      exact gd_ne (by omega)
theorem l_nO {F : Option Nat → MM β} (hn' : n = x + l.length) : mb (nO ci N fs) F (hl x u rf f l) = F (some n) (hl x (u + N) rf f (l ++ [.inr (ci, fs)])) := by
  have e1 : nO ci N fs (hl x u rf f l) = some (some n, hl x (u + N) rf f (l ++ [.inr (ci, fs)])) := by
    rw [← hl_hn, hn']
    rfl
  rw [mb_s e1]
theorem l_nA {F : Option Nat → MM β} (hn' : n = x + l.length) (hc : c32 = nI c) (h : c ≤ 20000) : mb (nA t c32) F (hl x u rf f l) = F (some n) (hl x (u + c) rf f (l ++ [.inl (t, c, .inl fun _ => 0)])) := by
  subst hc
  have hcl : (nI c).toNatClampNeg = c := nI_clamp (by omega)
  have e1 : nA t (nI c) (hl x u rf f l) = some (some n, hl x (u + c) rf f (l ++ [.inl (t, c, .inl fun _ => 0)])) := by
    rw [← hl_hn, hn']
    unfold nA
    rw [hcl, if_pos ⟨nI_pos (by omega), by omega⟩]
    rfl
  rw [mb_s e1]
theorem l_nQ {F : Option Nat → MM β} (hn' : n = x + l.length) (hc : c32 = nI c) (h : c ≤ 20000) : mb (nQ t c32) F (hl x u rf f l) = F (some n) (hl x (u + c) rf f (l ++ [.inl (t, c, .inr (.inr (.inr (.inr (fun _ => none)))))])) := by
  subst hc
  have hcl : (nI c).toNatClampNeg = c := nI_clamp (by omega)
  have e1 : nQ t (nI c) (hl x u rf f l) = some (some n, hl x (u + c) rf f (l ++ [.inl (t, c, .inr (.inr (.inr (.inr (fun _ => none)))))])) := by
    rw [← hl_hn, hn']
    unfold nQ
    rw [hcl, if_pos ⟨nI_pos (by omega), by omega⟩]
    rfl
  rw [mb_s e1]
theorem l_pV {F : Unit → MM β} {v : Value} (hb : b = x + l1.length) (hk : Nat.ble (k + 1) fs.length = true) : mb (pV ci (some b) k v) F (hl x u rf f (l1 ++ .inr (ci, fs) :: l2)) = F () (hl x u rf f (l1 ++ .inr (ci, fs.set k v) :: l2)) := by
  have e1 : pV ci (some b) k v (hl x u rf f (l1 ++ .inr (ci, fs) :: l2)) = some ((), hl x u rf f (l1 ++ .inr (ci, fs.set k v) :: l2)) := by
    unfold pV
    simp only [hl_ce (o := .inr (ci, fs)) hb]
    rw [if_pos ⟨trivial, Nat.le_of_ble_eq_true hk⟩, hl_hs hb]
  rw [mb_s e1]
theorem l_pR {F : Unit → MM β} {v : Nat} (hb : b = x + l1.length) (hk : Nat.ble (k + 1) fs.length = true) : mb (pR ci (some b) k (some v)) F (hl x u rf f (l1 ++ .inr (ci, fs) :: l2)) = F () (hl x u rf f (l1 ++ .inr (ci, fs.set k (.ref v)) :: l2)) := l_pV hb hk
theorem l_pI {F : Unit → MM β} {v : Int32} (hb : b = x + l1.length) (hk : Nat.ble (k + 1) fs.length = true) : mb (pI ci (some b) k v) F (hl x u rf f (l1 ++ .inr (ci, fs) :: l2)) = F () (hl x u rf f (l1 ++ .inr (ci, fs.set k (.int v)) :: l2)) := l_pV hb hk
theorem l_gR {F : Option Nat → MM β} {v : Nat} (hb : b = x + l1.length) (hk : fs[k]? = some (.ref v)) (hok : okc ci ci = true) : mb (gR ci (some b) k) F (hl x u rf f (l1 ++ .inr (ci, fs) :: l2)) = F (some v) (hl x u rf f (l1 ++ .inr (ci, fs) :: l2)) := by
  have e1 : gR ci (some b) k (hl x u rf f (l1 ++ .inr (ci, fs) :: l2)) = some (some v, hl x u rf f (l1 ++ .inr (ci, fs) :: l2)) := by
    unfold gR gV
    simp only [hl_ce (o := .inr (ci, fs)) hb, hok, hk]
    rfl
  rw [mb_s e1]
theorem ap_s : (l1 ++ o :: l2) ++ R = l1 ++ o :: (l2 ++ R) := by rw [List.append_assoc]; rfl
theorem ap_l : (l1 ++ o :: l2).length = l1.length + (l2.length + 1) := by rw [List.length_append]; rfl
/-- a field is set to a new row -/
theorem l_fA {F : Unit → MM β} (hb : b = x + l1.length) (hn' : n = b + (l2.length + 1)) (hc : c32 = nI c) (h : Nat.ble c 20000 = true) (hk : Nat.ble (k + 1) fs.length = true) : mb (nA t c32) (fun v => mb (pR ci (some b) k v) F) (hl x u rf f (l1 ++ .inr (ci, fs) :: l2)) = F () (hl x (u + c) rf f (l1 ++ .inr (ci, fs.set k (.ref n)) :: (l2 ++ [.inl (t, c, .inl fun _ => 0)]))) := by
  rw [l_nA (n := n) (by rw [ap_l]; omega) hc (Nat.le_of_ble_eq_true h), ap_s, l_pR hb hk]
theorem l_fQ {F : Unit → MM β} (hb : b = x + l1.length) (hn' : n = b + (l2.length + 1)) (hc : c32 = nI c) (h : Nat.ble c 20000 = true) (hk : Nat.ble (k + 1) fs.length = true) : mb (nQ t c32) (fun v => mb (pR ci (some b) k v) F) (hl x u rf f (l1 ++ .inr (ci, fs) :: l2)) = F () (hl x (u + c) rf f (l1 ++ .inr (ci, fs.set k (.ref n)) :: (l2 ++ [.inl (t, c, .inr (.inr (.inr (.inr (fun _ => none)))))]))) := by
  rw [l_nQ (n := n) (by rw [ap_l]; omega) hc (Nat.le_of_ble_eq_true h), ap_s, l_pR hb hk]
/-- a field is set to a new object, whose constructor is told -/
theorem l_fX {F : Unit → MM β} {K : Nat → MM Unit} {u' : Nat} (hb : b = x + l1.length) (hn' : n = b + (l2.length + 1)) (hK : ∀ L : List va_E, n = x + L.length → K n (hl x (u + N) rf f (L ++ [.inr (ci2, fs2)])) = some ((), hl x u' rf f (L ++ R))) (hk : Nat.ble (k + 1) fs.length = true) : mb (nO ci2 N fs2) (fun v => mb (wn v fun t => K t) fun _ => mb (pR ci (some b) k v) F) (hl x u rf f (l1 ++ .inr (ci, fs) :: l2)) = F () (hl x u' rf f (l1 ++ .inr (ci, fs.set k (.ref n)) :: (l2 ++ R))) := by
  have hl' : n = x + (l1 ++ Sum.inr (ci, fs) :: l2 : List va_E).length := by rw [ap_l]; omega
  rw [l_nO (n := n) hl', wn_s, mb_s (hK _ hl'), ap_s, l_pR hb hk]
theorem l_X8 (hb : b = x + l.length) (hc : c32 = nI c) (h : Nat.ble c 20000 = true) : X8_init b c32 (hl x u rf f (l ++ [.inr (9, [.null, .int 0])])) = some ((), hl x (u + c) rf f (l ++ [.inr (9, [.ref (b + 1), .int 0]), .inl (0, c, .inl fun _ => 0)])) := by
  subst hc
  have := Nat.le_of_ble_eq_true h
  unfold X8_init
  rw [wn_s, if_neg (nI_pos (by omega)), l_fA (n := b + 1) hb rfl rfl h rfl]
  rfl

theorem l_X10 (hb : b = x + l.length) : X10_init b (hl x u rf f (l ++ [.inr (11, [.null, .null, .null, .null, .int 0])])) = some ((), hl x (u + 120 + 2 + 121 + 2 + 121 + 2 + 121) rf f (l ++ [.inr (11, [.ref (b + 1), .ref (b + 2), .ref (b + 4), .ref (b + 6), .int 0]), .inl (1, 120, .inl fun _ => 0), .inr (9, [.ref (b + 3), .int 0]), .inl (0, 121, .inl fun _ => 0), .inr (9, [.ref (b + 5), .int 0]), .inl (0, 121, .inl fun _ => 0), .inr (9, [.ref (b + 7), .int 0]), .inl (0, 121, .inl fun _ => 0)])) := by
  unfold X10_init
  rw [wn_s, l_fA (n := b + 1) (c := 120) (c32 := (120 : Int32)) hb rfl rfl rfl rfl, l_fX (n := b + 2) (K := fun t => X8_init t (121 : Int32)) hb rfl (fun L hL => l_X8 (c := 121) hL rfl rfl) rfl, l_fX (n := b + 4) (K := fun t => X8_init t (121 : Int32)) hb rfl (fun L hL => l_X8 (c := 121) hL rfl rfl) rfl, l_fX (n := b + 6) (K := fun t => X8_init t (121 : Int32)) hb rfl (fun L hL => l_X8 (c := 121) hL rfl rfl) rfl]
  rfl
theorem l_X4 (hb : b = x + l.length) : X4_init b (hl x u rf f (l ++ [.inr (5, [.null, .null, .null, .null, .null])])) = some ((), hl x (u + 2 + 121 + 2 + 121 + 2 + 121 + 2 + 121 + 2 + 121) rf f (l ++ [.inr (5, [.ref (b + 1), .ref (b + 3), .ref (b + 5), .ref (b + 7), .ref (b + 9)]), .inr (9, [.ref (b + 2), .int 0]), .inl (0, 121, .inl fun _ => 0), .inr (9, [.ref (b + 4), .int 0]), .inl (0, 121, .inl fun _ => 0), .inr (9, [.ref (b + 6), .int 0]), .inl (0, 121, .inl fun _ => 0), .inr (9, [.ref (b + 8), .int 0]), .inl (0, 121, .inl fun _ => 0), .inr (9, [.ref (b + 10), .int 0]), .inl (0, 121, .inl fun _ => 0)])) := by
  unfold X4_init
  rw [wn_s, l_fX (n := b + 1) (K := fun t => X8_init t (121 : Int32)) hb rfl (fun L hL => l_X8 (c := 121) hL rfl rfl) rfl, l_fX (n := b + 3) (K := fun t => X8_init t (121 : Int32)) hb rfl (fun L hL => l_X8 (c := 121) hL rfl rfl) rfl, l_fX (n := b + 5) (K := fun t => X8_init t (121 : Int32)) hb rfl (fun L hL => l_X8 (c := 121) hL rfl rfl) rfl, l_fX (n := b + 7) (K := fun t => X8_init t (121 : Int32)) hb rfl (fun L hL => l_X8 (c := 121) hL rfl rfl) rfl, l_fX (n := b + 9) (K := fun t => X8_init t (121 : Int32)) hb rfl (fun L hL => l_X8 (c := 121) hL rfl rfl) rfl]
  rfl
theorem l_X5 (hb : b = x + l.length) : X5_init b (hl x u rf f (l ++ [.inr (6, [.null, .null, .null, .null])])) = some ((), hl x (u + 2 + 121 + 2 + 121 + 2 + 121 + 2 + 121) rf f (l ++ [.inr (6, [.ref (b + 1), .ref (b + 3), .ref (b + 5), .ref (b + 7)]), .inr (9, [.ref (b + 2), .int 0]), .inl (0, 121, .inl fun _ => 0), .inr (9, [.ref (b + 4), .int 0]), .inl (0, 121, .inl fun _ => 0), .inr (9, [.ref (b + 6), .int 0]), .inl (0, 121, .inl fun _ => 0), .inr (9, [.ref (b + 8), .int 0]), .inl (0, 121, .inl fun _ => 0)])) := by
  unfold X5_init
  rw [wn_s, l_fX (n := b + 1) (K := fun t => X8_init t (121 : Int32)) hb rfl (fun L hL => l_X8 (c := 121) hL rfl rfl) rfl, l_fX (n := b + 3) (K := fun t => X8_init t (121 : Int32)) hb rfl (fun L hL => l_X8 (c := 121) hL rfl rfl) rfl, l_fX (n := b + 5) (K := fun t => X8_init t (121 : Int32)) hb rfl (fun L hL => l_X8 (c := 121) hL rfl rfl) rfl, l_fX (n := b + 7) (K := fun t => X8_init t (121 : Int32)) hb rfl (fun L hL => l_X8 (c := 121) hL rfl rfl) rfl]
  rfl
theorem l_X6 (hb : b = x + l.length) : X6_init b (hl x u rf f (l ++ [.inr (7, [.null, .null, .null, .null, .int 0, .int 0])])) = some ((), hl x (u + 71 + 71 + 852 + 852) rf f (l ++ [.inr (7, [.ref (b + 1), .ref (b + 2), .ref (b + 3), .ref (b + 4), .int 0, .int (-1)]), .inl (0, 71, .inl fun _ => 0), .inl (0, 71, .inl fun _ => 0), .inl (1, 852, .inl fun _ => 0), .inl (1, 852, .inl fun _ => 0)])) := by
  unfold X6_init
  rw [wn_s, l_fA (n := b + 1) (c := 71) (c32 := (71 : Int32)) hb rfl rfl rfl rfl, l_fA (n := b + 2) (c := 71) (c32 := (71 : Int32)) hb rfl rfl rfl rfl, l_fA (n := b + 3) (c := 852) (c32 := (852 : Int32)) hb rfl rfl rfl rfl, l_fA (n := b + 4) (c := 852) (c32 := (852 : Int32)) hb rfl rfl rfl rfl, l_pI hb rfl]
  rfl
theorem l_X1 (hb : b = x + l.length) : X1_init b (hl x u rf f (l ++ [.inr (3, [.null, .null, .null])])) = some ((), hl x (u + 400 + 400 + 400) rf f (l ++ [.inr (3, [.ref (b + 1), .ref (b + 2), .ref (b + 3)]), .inl (0, 400, .inl fun _ => 0), .inl (0, 400, .inl fun _ => 0), .inl (0, 400, .inl fun _ => 0)])) := by
  unfold X1_init
  rw [wn_s, l_fA (n := b + 1) (c := 400) (c32 := (400 : Int32)) hb rfl rfl rfl rfl, l_fA (n := b + 2) (c := 400) (c32 := (400 : Int32)) hb rfl rfl rfl rfl, l_fA (n := b + 3) (c := 400) (c32 := (400 : Int32)) hb rfl rfl rfl rfl]
  rfl
theorem l_X7 {v : Nat} (hb : b = x + l.length) : X7_init b (some v) (hl x u rf f (l ++ [.inr (8, [.null, .null, .null, .int 0, .int 0, .int 0])])) = some ((), hl x (u + 5 + 2 + 121 + 2 + 121 + 2 + 121 + 2 + 121 + 2 + 121 + 4 + 2 + 121 + 2 + 121 + 2 + 121 + 2 + 121) rf f (l ++ [.inr (8, [.ref v, .ref (b + 1), .ref (b + 12), .int 0, .int 0, .int (-9)]), .inr (5, [.ref (b + 2), .ref (b + 4), .ref (b + 6), .ref (b + 8), .ref (b + 10)]), .inr (9, [.ref (b + 3), .int 0]), .inl (0, 121, .inl fun _ => 0), .inr (9, [.ref (b + 5), .int 0]), .inl (0, 121, .inl fun _ => 0), .inr (9, [.ref (b + 7), .int 0]), .inl (0, 121, .inl fun _ => 0), .inr (9, [.ref (b + 9), .int 0]), .inl (0, 121, .inl fun _ => 0), .inr (9, [.ref (b + 11), .int 0]), .inl (0, 121, .inl fun _ => 0), .inr (6, [.ref (b + 13), .ref (b + 15), .ref (b + 17), .ref (b + 19)]), .inr (9, [.ref (b + 14), .int 0]), .inl (0, 121, .inl fun _ => 0), .inr (9, [.ref (b + 16), .int 0]), .inl (0, 121, .inl fun _ => 0), .inr (9, [.ref (b + 18), .int 0]), .inl (0, 121, .inl fun _ => 0), .inr (9, [.ref (b + 20), .int 0]), .inl (0, 121, .inl fun _ => 0)])) := by
  unfold X7_init
  rw [wn_s, l_fX (n := b + 1) (K := fun t => X4_init t) hb rfl (fun L hL => l_X4 hL) rfl, l_fX (n := b + 12) (K := fun t => X5_init t) hb rfl (fun L hL => l_X5 hL) rfl, l_pI hb rfl, l_pR hb rfl]
  rfl
theorem l_J4 (hb : b = x + l.length) : J4_init_da8c8 b (hl x u rf f (l ++ [.inr (1, [.null, .int 0, .int 0, .int 0])])) = some ((), hl x (u + 16) rf f (l ++ [.inr (1, [.ref (b + 1), .int 0, .int 0, .int 0]), .inl (1, 16, .inl fun _ => 0)])) := by
  have e1 : J5_init_d00df b (16 : Int32) (hl x u rf f (l ++ [.inr (1, [.null, .int 0, .int 0, .int 0])])) = some ((), hl x (u + 16) rf f (l ++ [.inr (1, [.ref (b + 1), .int 0, .int 0, .int 0]), .inl (1, 16, .inl fun _ => 0)])) := by
    unfold J5_init_d00df pB
    rw [wn_s, if_neg (by decide), l_fA (n := b + 1) (c := 16) (c32 := (16 : Int32)) hb rfl rfl rfl rfl, if_pos (by decide), l_pV hb rfl]
    rfl
  unfold J4_init_da8c8
  rw [wn_s, mb_s e1]
  rfl
theorem l_X9 (hb : b = x + l.length) : X9_init b (hl x u rf f (l ++ [.inr (10, [.null])])) = some ((), hl x (u + 4 + 16) rf f (l ++ [.inr (10, [.ref (b + 1)]), .inr (1, [.ref (b + 2), .int 0, .int 0, .int 0]), .inl (1, 16, .inl fun _ => 0)])) := by
  unfold X9_init
  rw [wn_s, l_fX (n := b + 1) (K := fun t => J4_init_da8c8 t) hb rfl (fun L hL => l_J4 hL) rfl]
  rfl
end HLS
