/-! ===== what holds between two calls ===== -/
/-- how many of the first are told; a Row lists those told -/
def cnT (t : Int → Int) (n : Int) : Int := smz t n.toNat 0
def b01 (t : Int → Int) : Prop := ∀ p, t p = 0 ∨ t p = 1
def LsR (J : JS) (id : Nat) (t : Int → Int) (n : Int) : Prop := js J 1 id = cnT t n ∧ ∀ p, 0 ≤ p → p < n → t p = 1 → ja J 1 id (cnT t p) = p
/-- how often a place is among the entries; which places are missing, doubled, loose; which entries are strays -/
def tmE (E : Int → Int) (m p : Int) : Int := smz (fun i => if E i = p then 1 else 0) m.toNat 0
def t2E (E : Int → Int) (m : Int) : Int → Int := fun p => if tmE E m p = 0 then 1 else 0
def t3E (E : Int → Int) (m : Int) : Int → Int := fun p => if tmE E m p ≤ 1 then 0 else 1
def t5E (E cj : Int → Int) (m : Int) : Int → Int := fun p => if tmE E m p ≤ 0 then 0 else if cj p < 0 then 0 else if tmE E m (cj p) = 0 then 1 else 0
def t4E (E R : Int → Int) (mx : Int) : Int → Int := fun e => if rst E R mx e.toNat then 0 else 1
/-- the texts of a note -/
def rnT (nm : Int → List Nat) (t : Int → Int) : Nat → Int → Int → Int → List Nat
  | 0, _, _, _ => []
  | d + 1, p, o, f => if t p = 0 then rnT nm t d (p + 1) (-1) f else
    if d = 0 ∨ t (p + 1) = 0 then (if f = 0 then [] else txt 14) ++ (nm (if o < 0 then p else o) ++ ((if p ≤ (if o < 0 then p else o) then [] else 45 :: nm p) ++ rnT nm t d (p + 1) (-1) 1)) else rnT nm t d (p + 1) (if o < 0 then p else o) f
def mvT (nm : Int → List Nat) (E t : Int → Int) : Nat → Int → Int → List Nat
  | 0, _, _ => []
  | d + 1, e, f => if t e = 0 then mvT nm E t d (e + 1) f else (if f = 0 then [] else txt 14) ++ (nm (E e) ++ mvT nm E t d (e + 1) 1)
def hdT (acc w : List Nat) : List Nat := acc ++ ((if acc = [] then [] else txt 6) ++ w)
def noT (nm : Int → List Nat) (E t2 t3 t4 : Int → Int) (n m : Int) : List Nat :=
  (fun a => (fun b => if cnT t4 m = 0 then b else hdT b (txt 18) ++ mvT nm E t4 m.toNat 0 0) (if cnT t3 n = 0 then a else hdT a (txt 16) ++ rnT nm t3 n.toNat 0 (-1) 0)) (if cnT t2 n = 0 then [] else hdT [] (txt 13) ++ rnT nm t2 n.toNat 0 (-1) 0)
/-- a copy's entries, the names and conjugates of a book's places -/
def eC (W : IS) (c : Nat) : Int → Int := fun i => if 0 ≤ i ∧ i < 400 then W.2 18 ((c : Int) * 400 + i) else 0
def nmC (W : IS) (b : Nat) : Int → List Nat := fun p => if 0 ≤ p ∧ p < LC (mB W b) then nmT W b p else []
def cjQ (B : BK) (g i k : Int) : Int := if (k = 0 ∧ bf B g i = 0) ∧ bz B g + 1 - i ≠ i ∧ bf B g (bz B g + 1 - i) = 0 then ah B g (bz B g + 1 - i) else -1
def cjC (W : IS) (b : Nat) : Int → Int := fun p => if 0 ≤ p ∧ p < LC (mB W b) then cjQ (mB W b) (W.2 12 ((b : Int) * 400 + p)) (W.2 13 ((b : Int) * 400 + p)) (W.2 14 ((b : Int) * 400 + p)) else -1
/-- what the class holds of a copy -/
def CpQ (J : JS) (c b : Nat) (n m : Int) (E cj : Int → Int) (nm : Int → List Nat) : Prop :=
  jd J c = some c ∧ js J 12 c = b ∧ jr J c = b ∧ (0 ≤ m ∧ m ≤ 400) ∧ js J 1 (200 + 5 * c) = m ∧ (∀ i, 0 ≤ i → i < m → ja J 1 (200 + 5 * c) i = E i ∧ 0 ≤ E i ∧ E i < n) ∧ LsR J (201 + 5 * c) (t2E E m) n ∧ LsR J (202 + 5 * c) (t3E E m) n ∧ LsR J (204 + 5 * c) (t5E E cj m) n ∧
  ∃ R mx, rOK E m 0 R ∧ rMx m 0 R mx ∧ LsR J (203 + 5 * c) (t4E E R mx) m ∧ jn J c < jT J ∧ jt J (jn J c) = noT nm E (t2E E m) (t3E E m) (t4E E R mx) n m
def CpJ (W : IS) (J : JS) (c : Nat) : Prop := ∃ b : Nat, b < jB J ∧ W.2 16 c = b ∧ CpQ J c b (LC (mB W b)) (W.2 17 c) (eC W c) (cjC W b) (nmC W b)
def BkJ (W : IS) (J : JS) (b : Nat) : Prop := jb J b = some b ∧ BkI W (b : Int) ∧ BoR J W b ∧ jw J b < jT J ∧ jt J (jw J b) = bkT (mB W b)
def Inv (W : IS) (J : JS) : Prop := CT J ∧ TpR J (W.2 0) (W.1 1) ∧ (js J 8 0 = W.1 5 ∧ W.1 5 = jB J ∧ jB J ≤ 8) ∧ (js J 9 0 = W.1 15 ∧ W.1 15 = jC J ∧ jC J ≤ 16) ∧ (js J 5 0 = W.1 3 ∧ js J 10 0 = W.1 4 ∧ js J 11 0 = W.1 2) ∧ (∀ b, b < jB J → BkJ W J b) ∧ ∀ c, c < jC J → CpJ W J c
/-- what was made before is kept -/
def JKp (J J' : JS) : Prop := (jB J ≤ jB J' ∧ jC J ≤ jC J' ∧ jT J ≤ jT J') ∧ (∀ i, i < jT J → jt J' i = jt J i) ∧ (∀ b, b < jB J → jb J' b = jb J b ∧ jw J' b = jw J b ∧ js J' 6 (b + 1) = js J 6 (b + 1) ∧ (∀ t, 3 ≤ t → t ≤ 6 → ja J' t (b + 1) = ja J t (b + 1)) ∧ ja J' 7 b = ja J 7 b ∧ ∀ i, 100 + 4 * b ≤ i → i < 104 + 4 * b → js J' 1 i = js J 1 i ∧ ja J' 1 i = ja J 1 i) ∧ ∀ c, c < jC J → jd J' c = jd J c ∧ jn J' c = jn J c ∧ jr J' c = jr J c ∧ js J' 12 c = js J 12 c ∧ ∀ i, 200 + 5 * c ≤ i → i < 205 + 5 * c → js J' 1 i = js J 1 i ∧ ja J' 1 i = ja J 1 i
def WKp (W W' : IS) (nb nc : Nat) : Prop := (∀ b : Nat, b < nb → BkS W W' (b : Int)) ∧ ∀ c : Nat, c < nc → W'.2 16 c = W.2 16 c ∧ W'.2 17 c = W.2 17 c ∧ ∀ i : Int, 0 ≤ i → i < 400 → W'.2 18 ((c : Int) * 400 + i) = W.2 18 ((c : Int) * 400 + i)
section INV
variable {W W' : IS} {J J' : JS}
theorem CT.kp (h : CT J) (k : JKp J J') : CT J' := ⟨by have := h.1; have := k.1; omega, fun i hi => by rw [k.2.1 i (by have := h.1; omega)]; exact h.2 i hi⟩
theorem BkJ.kp {b : Nat} (h : BkJ W J b) (hb : b < jB J) (k : JKp J J') (hS : BkS W W' (b : Int)) : BkJ W' J' b := by
  obtain ⟨h1, h2, h3, h4, h5⟩ := h
  obtain ⟨k1, k2, k3, k4, k5, k6⟩ := k.2.2.1 b hb
  have hE := hS.eq h2.1
  refine ⟨k1.trans h1, hS.bk h2, ?_, by rw [k2]; have := k.1; omega, ?_⟩
  · obtain ⟨j1, j2, j3, j4, j5⟩ := hS.bo h2 h3
    refine ⟨j1.eq k3 k4, by have := k.1; omega, by rw [k5]; exact j3, ?_, ?_⟩
    · rw [(k6 (100 + 4 * b) (by omega) (by omega)).1, (k6 (101 + 4 * b) (by omega) (by omega)).1, (k6 (102 + 4 * b) (by omega) (by omega)).1, (k6 (103 + 4 * b) (by omega) (by omega)).1]
      exact j4
    · rw [(k6 (100 + 4 * b) (by omega) (by omega)).2, (k6 (101 + 4 * b) (by omega) (by omega)).2, (k6 (102 + 4 * b) (by omega) (by omega)).2, (k6 (103 + 4 * b) (by omega) (by omega)).2]
      exact j5
  · rw [k2, k.2.1 _ h4, h5, hE.bkT' h2.1]
theorem LsR.eq {id : Nat} {t : Int → Int} {n : Int} (h : LsR J id t n) (e : js J' 1 id = js J 1 id ∧ ja J' 1 id = ja J 1 id) : LsR J' id t n := by
  unfold LsR
  rw [e.1, e.2]
  exact h
theorem CpQ.kp {c b : Nat} {n m : Int} {E cj : Int → Int} {nm : Int → List Nat} (h : CpQ J c b n m E cj nm) (hc : c < jC J) (k : JKp J J') : CpQ J' c b n m E cj nm := by
  obtain ⟨h1, h2, h3, h4, h5, h6, h7, h8, h9, R, mx, h10, h11, h12, h13, h14⟩ := h
  obtain ⟨k1, k2, k3, k4, k5⟩ := k.2.2.2 c hc
  refine ⟨k1.trans h1, k4.trans h2, k3.trans h3, h4, ?_, ?_, h7.eq (k5 _ (by omega) (by omega)), h8.eq (k5 _ (by omega) (by omega)), h9.eq (k5 _ (by omega) (by omega)), R, mx, h10, h11, h12.eq (k5 _ (by omega) (by omega)), by rw [k2]; have := k.1; omega, ?_⟩
  · rw [(k5 (200 + 5 * c) (by omega) (by omega)).1]; exact h5
  · rw [(k5 (200 + 5 * c) (by omega) (by omega)).2]; exact h6
  · rw [k2, k.2.1 _ h13]; exact h14
theorem BkS.cj {b : Nat} (h : BkS W W' (b : Int)) (hI : BkI W (b : Int)) : LC (mB W' b) = LC (mB W b) ∧ nmC W' b = nmC W b ∧ cjC W' b = cjC W b := by
  have hE := h.eq hI.1
  have hL := hE.LC' hI.1
  refine ⟨hL, funext fun p => ?_, funext fun p => ?_⟩
  · unfold nmC
    rw [hL]
    by_cases c : 0 ≤ p ∧ p < LC (mB W b)
    · rw [if_pos c, if_pos c, h.nm hI c.1 c.2]
    · rw [if_neg c, if_neg c]
  · unfold cjC
    rw [hL]
    by_cases c : 0 ≤ p ∧ p < LC (mB W b)
    · have h4 := hI.2.2.1
      have e := h.2.2.2 p c.1 (by omega)
      rw [if_pos c, if_pos c, e.1, e.2.1, e.2.2]
      have hA := hI.at c.1 c.2
      revert hA
      generalize W.2 12 ((b : Int) * 400 + p) = g
      generalize W.2 13 ((b : Int) * 400 + p) = i
      generalize W.2 14 ((b : Int) * 400 + p) = k
      intro hA
      have hV2 := hA.1.2
      have hV : isV (mB W b) g (bz (mB W b) g + 1 - i) := ⟨hA.1.1, by omega, by omega⟩
      unfold cjQ
      rw [(hE.2.1 g hA.1.1.1 hA.1.1.2).2, (hE.2.2 g i hA.1).1, (hE.2.2 g _ hV).1, hE.ah' hV]
    · rw [if_neg c, if_neg c]
theorem CpJ.kp {c : Nat} (h : CpJ W J c) (hc : c < jC J) (hB : ∀ b, b < jB J → BkJ W J b) (k : JKp J J') (w : WKp W W' (jB J) (jC J)) : CpJ W' J' c := by
  obtain ⟨b, b1, b2, b3⟩ := h
  obtain ⟨w1, w2, w3⟩ := w.2 c hc
  obtain ⟨e1, e2, e3⟩ := (w.1 b b1).cj (hB b b1).2.1
  refine ⟨b, by have := k.1; omega, w1.trans b2, ?_⟩
  have e4 : eC W' c = eC W c := funext fun i => by
    unfold eC
    by_cases q : 0 ≤ i ∧ i < 400
    · rw [if_pos q, if_pos q, w3 i q.1 q.2]
    · rw [if_neg q, if_neg q]
  rw [e1, e2, e3, e4, w2]
  exact b3.kp hc k
theorem JKp.refl : JKp J J := ⟨⟨Nat.le_refl _, Nat.le_refl _, Nat.le_refl _⟩, fun _ _ => rfl, fun _ _ => ⟨rfl, rfl, rfl, fun _ _ _ => rfl, rfl, fun _ _ _ => ⟨rfl, rfl⟩⟩, fun _ _ => ⟨rfl, rfl, rfl, rfl, fun _ _ _ => ⟨rfl, rfl⟩⟩⟩
theorem JKp.trans {J1 J2 J3 : JS} (h : JKp J1 J2) (h' : JKp J2 J3) : JKp J1 J3 := by
  have a := h.1
  have a' := h'.1
  refine ⟨by omega, fun i hi => (h'.2.1 i (by omega)).trans (h.2.1 i hi), fun b hb => ?_, fun c hc => ?_⟩
  · obtain ⟨p1, p2, p3, p4, p5, p6⟩ := h.2.2.1 b hb
    obtain ⟨q1, q2, q3, q4, q5, q6⟩ := h'.2.2.1 b (by omega)
    exact ⟨q1.trans p1, q2.trans p2, q3.trans p3, fun t t0 t1 => (q4 t t0 t1).trans (p4 t t0 t1), q5.trans p5, fun i i0 i1 => ⟨(q6 i i0 i1).1.trans (p6 i i0 i1).1, (q6 i i0 i1).2.trans (p6 i i0 i1).2⟩⟩
  · obtain ⟨p1, p2, p3, p4, p5⟩ := h.2.2.2 c hc
    obtain ⟨q1, q2, q3, q4, q5⟩ := h'.2.2.2 c (by omega)
    exact ⟨q1.trans p1, q2.trans p2, q3.trans p3, q4.trans p4, fun i i0 i1 => ⟨(q5 i i0 i1).1.trans (p5 i i0 i1).1, (q5 i i0 i1).2.trans (p5 i i0 i1).2⟩⟩
/-- nothing was made: what the rest is -/
theorem JKp.same (hr : J'.2.2 = J.2.2) (hs : ∀ t i, ((t = 1 ∧ 100 ≤ i) ∨ (t = 6 ∧ 1 ≤ i) ∨ t = 12) → js J' t i = js J t i) (ha : ∀ t i, ((t = 1 ∧ 100 ≤ i) ∨ ((3 ≤ t ∧ t ≤ 6) ∧ 1 ≤ i) ∨ t = 7) → ja J' t i = ja J t i) : JKp J J' := by
  have rr : ∀ {α : Type} (F : JS → α) (G : (Nat × Nat × Nat) × ((Nat → Option Nat) × (Nat → Option Nat)) × ((Nat → List Nat) × List Nat) × ((Nat → Nat) × (Nat → Nat) × (Nat → Nat)) → α), (∀ J, F J = G J.2.2) → F J' = F J := fun F G h => by rw [h, h, hr]
  have eB := rr jB (fun q => q.1.1) fun _ => rfl
  have eC := rr jC (fun q => q.1.2.1) fun _ => rfl
  have eT := rr jT (fun q => q.1.2.2) fun _ => rfl
  refine ⟨by omega, fun i _ => by rw [rr jt (fun q => q.2.2.1.1) (fun _ => rfl)], fun b hb => ⟨by rw [rr jb (fun q => q.2.1.1) (fun _ => rfl)], by rw [rr jw (fun q => q.2.2.2.1) (fun _ => rfl)], hs 6 _ (by omega), fun t t0 t1 => ha t _ (by omega), ha 7 _ (by omega), fun i i0 i1 => ⟨hs 1 i (by omega), ha 1 i (by omega)⟩⟩, fun c hc => ⟨by rw [rr jd (fun q => q.2.1.2) (fun _ => rfl)], by rw [rr jn (fun q => q.2.2.2.2.2) (fun _ => rfl)], by rw [rr jr (fun q => q.2.2.2.2.1) (fun _ => rfl)], hs 12 _ (by omega), fun i i0 i1 => ⟨hs 1 i (by omega), ha 1 i (by omega)⟩⟩⟩
theorem WKp.same {nb nc : Nat} (h : ∀ k, k = 6 ∨ k = 7 ∨ k = 8 ∨ k = 9 ∨ k = 10 ∨ k = 11 ∨ k = 12 ∨ k = 13 ∨ k = 14 ∨ k = 16 ∨ k = 17 ∨ k = 18 → W'.2 k = W.2 k) : WKp W W' nb nc := by
  refine ⟨fun b _ => ?_, fun c _ => ?_⟩
  · unfold BkS
    rw [h 6 (by omega), h 7 (by omega), h 8 (by omega), h 9 (by omega), h 10 (by omega), h 11 (by omega), h 12 (by omega), h 13 (by omega), h 14 (by omega)]
    exact ⟨rfl, fun _ _ _ => ⟨rfl, rfl, fun _ _ _ => ⟨rfl, rfl⟩⟩, rfl, fun _ _ _ => ⟨rfl, rfl, rfl⟩⟩
  · rw [h 16 (by omega), h 17 (by omega), h 18 (by omega)]
    exact ⟨rfl, rfl, fun _ _ _ => rfl⟩
/-- nothing was made or unmade -/
theorem Inv.same (hI : Inv W J) (hT : TpR J' (W'.2 0) (W'.1 1)) (h5 : W'.1 5 = W.1 5) (h15 : W'.1 15 = W.1 15) (h89 : js J' 8 0 = js J 8 0 ∧ js J' 9 0 = js J 9 0) (hn : js J' 5 0 = W'.1 3 ∧ js J' 10 0 = W'.1 4 ∧ js J' 11 0 = W'.1 2) (hB : jB J' = jB J ∧ jC J' = jC J) (k : JKp J J') (w : WKp W W' (jB J) (jC J)) : Inv W' J' := by
  obtain ⟨i1, i2, i3, i4, i5, i6, i7⟩ := hI
  exact ⟨i1.kp k, hT, by rw [h89.1, h5, hB.1]; exact i3, by rw [h89.2, h15, hB.2]; exact i4, hn, fun b hb => (i6 b (by omega)).kp (by omega) k (w.1 b (by omega)), fun c hc => (i7 c (by omega)).kp (by omega) i6 k w⟩
end INV
