/-! ===== the class over whole numbers ===== -/
abbrev JS : Type := (Nat → Nat → Int) × (Nat → Nat → Int → Int) × (Nat × Nat × Nat) × ((Nat → Option Nat) × (Nat → Option Nat)) × ((Nat → List Nat) × List Nat) × ((Nat → Nat) × (Nat → Nat) × (Nat → Nat))
abbrev JM (α : Type) : Type := JS → Option (α × JS)
def js (J : JS) : Nat → Nat → Int := J.1
def ja (J : JS) : Nat → Nat → Int → Int := J.2.1
def jB (J : JS) : Nat := J.2.2.1.1
def jC (J : JS) : Nat := J.2.2.1.2.1
def jT (J : JS) : Nat := J.2.2.1.2.2
def jb (J : JS) : Nat → Option Nat := J.2.2.2.1.1
def jd (J : JS) : Nat → Option Nat := J.2.2.2.1.2
def jt (J : JS) : Nat → List Nat := J.2.2.2.2.1.1
def jx (J : JS) : List Nat := J.2.2.2.2.1.2
def jw (J : JS) : Nat → Nat := J.2.2.2.2.2.1
def jr (J : JS) : Nat → Nat := J.2.2.2.2.2.2.1
def jn (J : JS) : Nat → Nat := J.2.2.2.2.2.2.2
/-- how long a Row is; whether there is such a one -/
def rl (i : Nat) : Nat := if i ≤ 11 then 121 else 400
def rx (J : JS) (i : Nat) : Bool := decide (i ≤ 12 ∨ (100 ≤ i ∧ i < 100 + 4 * jB J) ∨ (200 ≤ i ∧ i < 200 + 5 * jC J))
def jl (t i : Nat) : Nat := if t = 1 then rl i else if t = 2 then 120 else if t = 3 then 71 else if t = 4 then 71 else if t = 5 then 852 else if t = 6 then 852 else if t = 7 then 852 else 400
/-- whether there is such a cell -/
def kj (J : JS) (q : Nat × Nat) : Bool := if q.1 = 1 ∨ q.1 = 21 then rx J q.2 else if q.1 = 2 ∨ q.1 = 23 ∨ q.1 = 24 ∨ q.1 = 25 ∨ q.1 = 26 then decide (q.2 ≤ jB J) else if q.1 = 3 ∨ q.1 = 27 then decide (q.2 < jB J) else if q.1 = 4 then decide (q.2 < jC J) else if (5 ≤ q.1 ∧ q.1 ≤ 13) ∨ q.1 = 22 ∨ q.1 = 28 ∨ q.1 = 29 ∨ q.1 = 30 then decide (q.2 = 0) else false
def RS (S : CS) (J : JS) : Prop := (∀ t i, zs S t i = iI (js J t i)) ∧ (∀ t i (k : Nat), za S t i k = iI (ja J t i (k : Int))) ∧ (zB S = jB J ∧ zC S = jC J ∧ zT S = jT J) ∧ (zb S = jb J ∧ zd S = jd J) ∧ (zt S = jt J ∧ zx S = jx J) ∧ (zw S = jw J ∧ zr S = jr J ∧ zn S = jn J) ∧ (∀ i, rx J i = true → zc S i = rl i) ∧ (∀ p, p ≤ jB J → zp S p = true)
def ju1 (J : JS) (t i : Nat) (v : Int) : JS := (fun a b => if a = t ∧ b = i then v else js J a b, J.2)
def ju2 (J : JS) (t i : Nat) (k v : Int) : JS := (J.1, (fun a b l => if a = t ∧ b = i ∧ l = k then v else ja J a b l), J.2.2)
def juA (J : JS) (t i : Nat) (F : Int → Int) : JS := (J.1, (fun a b l => if a = t ∧ b = i then F l else ja J a b l), J.2.2)
def jux (J : JS) (l : List Nat) : JS := (J.1, J.2.1, J.2.2.1, J.2.2.2.1, (jt J, l), J.2.2.2.2.2)
def juT (J : JS) : JS := (J.1, J.2.1, (jB J, jC J, jT J + 1), J.2.2.2.1, ((fun j => if j = jT J then jx J else jt J j), jx J), J.2.2.2.2.2)
def juB (J : JS) (s : Nat) : JS :=
  ((fun t i => if t = 1 ∧ 100 + 4 * jB J ≤ i ∧ i < 104 + 4 * jB J then 0 else if t = 6 ∧ i = jB J + 1 then 0 else if t = 7 ∧ i = jB J + 1 then -1 else js J t i),
   (fun t i l => if (t = 1 ∧ 100 + 4 * jB J ≤ i ∧ i < 104 + 4 * jB J) ∨ ((t = 3 ∨ t = 4 ∨ t = 5 ∨ t = 6) ∧ i = jB J + 1) ∨ (t = 7 ∧ i = jB J) then 0 else ja J t i l),
   (jB J + 1, jC J, jT J), J.2.2.2.1, J.2.2.2.2.1, ((fun i => if i = jB J then s else jw J i), jr J, jn J))
def juC (J : JS) (n : Int) (b s : Nat) : JS :=
  ((fun t i => if t = 1 ∧ 200 + 5 * jC J ≤ i ∧ i < 205 + 5 * jC J then 0 else if t = 12 ∧ i = jC J then n else js J t i),
   (fun t i l => if t = 1 ∧ 200 + 5 * jC J ≤ i ∧ i < 205 + 5 * jC J then 0 else ja J t i l),
   (jB J, jC J + 1, jT J), J.2.2.2.1, J.2.2.2.2.1, (jw J, (fun i => if i = jC J then b else jr J i), (fun i => if i = jC J then s else jn J i)))
def jret {α : Type} (a : α) : JM α := fun J => some (a, J)
def jcon {α : Type} (r : Option Nat) (A : JM α) (B : Nat → JM α) : JM α := match r with
  | none => A
  | some b => B b
def jE (q : Nat × Nat) : JM Unit := fun J => if kj J q = true then some ((), J) else none
def jG (t i : Nat) : JM Int := fun J => if kj J (kyS t i) = true then some (js J t i, J) else none
def jP (t i : Nat) (v : Int) : JM Unit := fun J => if kj J (kyS t i) = true then some ((), ju1 J t i v) else none
def jA (t i : Nat) (k : Int) : JM Int := fun J => if kj J (20 + t, i) = true ∧ by2 t = false ∧ 0 ≤ k ∧ k < jl t i then some (ja J t i k, J) else none
def jAb (t i : Nat) (k : Int) : JM Int := fun J => if kj J (20 + t, i) = true ∧ by2 t = true ∧ 0 ≤ k ∧ k < jl t i then some (ja J t i k, J) else none
def jS (t i : Nat) (k v : Int) : JM Unit := fun J => if kj J (20 + t, i) = true ∧ by2 t = false ∧ 0 ≤ k ∧ k < jl t i then some ((), ju2 J t i k v) else none
def jSb (t i : Nat) (k v : Int) : JM Unit := fun J => if kj J (20 + t, i) = true ∧ by2 t = true ∧ 0 ≤ k ∧ k < jl t i then some ((), ju2 J t i k (iB8 v)) else none
def jN (t i : Nat) : JM Int := fun J => if kj J (20 + t, i) = true then some ((jl t i : Int), J) else none
def jBk (k : Int) : JM (Option Nat) := fun J => if 0 ≤ k ∧ k < 8 then some (jb J k.toNat, J) else none
def jCk (k : Int) : JM (Option Nat) := fun J => if 0 ≤ k ∧ k < 16 then some (jd J k.toNat, J) else none
def jW (b : Nat) : JM Nat := fun J => if b < jB J then some (jw J b, J) else none
def jR (c : Nat) : JM Nat := fun J => if c < jC J then some (jr J c, J) else none
def jTx (c : Nat) : JM Nat := fun J => if c < jC J then some (jn J c, J) else none
def jFi (t i : Nat) (b : Bool) (v : Int) : JM Unit := fun J => if kj J (20 + t, i) = true ∧ by2 t = b then some ((), juA J t i (fun l => if l < jl t i then (if b = true then iB8 v else v) else ja J t i l)) else none
def jCp (t i t2 i2 : Nat) (n : Int) : JM Unit := fun J => if kj J (20 + t, i) = true ∧ kj J (20 + t2, i2) = true ∧ by2 t = by2 t2 ∧ 0 ≤ n ∧ n ≤ jl t i ∧ n ≤ jl t2 i2 ∧ (by2 t = true → ∀ j : Fin n.toNat, iB8 (ja J t i j.1) = ja J t i j.1) then some ((), juA J t2 i2 (fun l => if l < n then ja J t i l else ja J t2 i2 l)) else none
def jdI (x y : Int) : JM Int := if y ≠ 0 ∧ -2147483648 < x ∧ x < 2147483648 ∧ R32 y then jret (x.tdiv y) else nof
def jrI (x y : Int) : JM Int := if y ≠ 0 ∧ -2147483648 < x ∧ x < 2147483648 ∧ R32 y then jret (x - x.tdiv y * y) else nof
def jnz (x : Int) : JM Int := if x = 0 ∨ x = 1 then jret x else nof
def jSl (i : Nat) : JM Int := fun J => if i < jT J then some (((jt J i).length : Int), J) else none
def jSc (i : Nat) (k : Int) : JM Int := fun J => if i < jT J ∧ 0 ≤ k ∧ k < (jt J i).length ∧ (jt J i).length < 2147483648 then some ((((jt J i).getD k.toNat 0 : Nat) : Int), J) else none
def jSi (i : Nat) (c : Int) : JM Int := fun J => if i < jT J ∧ (jt J i).length < 1000 ∧ 0 ≤ c ∧ c < 256 then some (idxZ (jt J i) c.toNat, J) else none
def jSq (i j : Nat) : JM Int := fun J => if i < jT J ∧ j < jT J ∧ (jt J i).length < 19999 ∧ (jt J j).length < 19999 then some (if jt J i = jt J j then 1 else 0, J) else none
def jXl : JM Int := fun J => some (((jx J).length : Int), J)
def jX0 : JM Unit := fun J => some ((), jux J [])
def jXc (c : Int) : JM Unit := fun J => if (0 ≤ c ∧ c < 256) ∧ (jx J).length + 1 ≤ 16384 then some ((), jux J (jx J ++ [c.toNat])) else none
def jXs (i : Nat) : JM Unit := fun J => if i < jT J ∧ (jx J).length + (jt J i).length ≤ 16384 then some ((), jux J (jx J ++ jt J i)) else none
def jXi (v : Int) : JM Unit := fun J => if (0 ≤ v ∧ v < 100) ∧ (jx J).length + 2 ≤ 16384 then some ((), jux J (jx J ++ dgs v.toNat)) else none
def jTos (L : Nat) : JM Nat := fun J => if (jx J).length ≤ L then some (jT J, juT J) else none
def jNB (s : Nat) : JM Nat := fun J => if jB J ≤ 24 ∧ s < jT J then some (jB J, juB J s) else none
def jNC (n : Int) (b s : Nat) : JM Nat := fun J => if jB J ≤ 24 ∧ b < jB J ∧ s < jT J then some (jC J, juC J n b s) else none
def jSB (k : Int) (b : Nat) : JM Unit := fun J => if 0 ≤ k ∧ k < 8 ∧ b < jB J then some ((), (J.1, J.2.1, J.2.2.1, ((fun i => if i = k.toNat then some b else jb J i), jd J), J.2.2.2.2)) else none
def jSC (k : Int) (c : Nat) : JM Unit := fun J => if 0 ≤ k ∧ k < 16 ∧ c < jC J then some ((), (J.1, J.2.1, J.2.2.1, (jb J, (fun i => if i = k.toNat then some c else jd J i)), J.2.2.2.2)) else none
def jPN (c s : Nat) : JM Unit := fun J => if c < jC J ∧ s < jT J then some ((), (J.1, J.2.1, J.2.2.1, J.2.2.2.1, J.2.2.2.2.1, (jw J, jr J, fun i => if i = c then s else jn J i))) else none
def jg9 (v : Int) : JM Int := if R32 v ∧ v ≠ -9 then jret v else nof
def Sj {α β : Type} (g : β → α) (c : CM α) (i : JM β) : Prop := ∀ J v J', i J = some (v, J') → ∀ S, RS S J → ∃ S', c S = some (g v, S') ∧ RS S' J'
section SJJ
variable {α β γ δ : Type} {g : β → α}
theorem sj_nf {n : CM α} : Sj g n nof := fun W v W' e => by cases e
theorem sj_ret {a : β} : Sj g (cr (g a)) (jret a) := fun W v W' e S hS => by cases e; exact ⟨S, rfl, hS⟩
theorem sj_re {x : Int32} {a : Int} (h : x = iI a) : Sj iI (cr x) (jret a) := by subst h; exact sj_ret
theorem sj_rn {a : β} : Sj (fun x : β => x) (cr a) (jret a) := fun W v W' e S hS => by cases e; exact ⟨S, rfl, hS⟩
theorem sj_ite {c d : Prop} {d1 : Decidable c} {d2 : Decidable d} {A B : CM α} {a b : JM β} (h : c ↔ d) (h1 : Sj g A a) (h2 : Sj g B b) : Sj g (@ite _ c d1 A B) (@ite _ d d2 a b) := by
  by_cases hc : c
  · rw [if_pos hc, if_pos (h.mp hc)]; exact h1
  · rw [if_neg hc, if_neg (fun q => hc (h.mpr q))]; exact h2
theorem sj_ig {c : Prop} {d : Decidable c} {A : CM α} {a : JM β} (h : c → Sj g A a) : Sj g A (ig c a) := fun W v W' e => by
  unfold ig at e
  by_cases hc : c
  · rw [if_pos hc] at e; exact h hc W v W' e
  · rw [if_neg hc] at e; cases e
theorem sj_b {k : δ → γ} {y : CM γ} {z : JM δ} {F : γ → CM α} {f : δ → JM β} (h1 : Sj k y z) (h2 : ∀ v, Sj g (F (k v)) (f v)) : Sj g (cb y F) (ib z f) := fun W v W' e S hS => by
  unfold ib at e
  cases hz : z W with
  | none => rw [hz] at e; cases e
  | some q =>
    rw [hz] at e
    obtain ⟨S1, e1, r1⟩ := h1 W q.1 q.2 hz S hS
    obtain ⟨S2, e2, r2⟩ := h2 q.1 q.2 v W' e S1 r1
    refine ⟨S2, ?_, r2⟩
    unfold cb
    rw [e1]
    exact e2
theorem sj_con {r : Option Nat} {A : CM α} {B : Nat → CM α} {a : JM β} {b : Nat → JM β} (h1 : Sj g A a) (h2 : ∀ i, Sj g (B i) (b i)) : Sj g (con r A B) (jcon r a b) := by
  cases r with
  | none => exact h1
  | some i => exact h2 i
theorem rx_iff {J : JS} {i : Nat} : rx J i = true ↔ (i ≤ 12 ∨ (100 ≤ i ∧ i < 100 + 4 * jB J) ∨ (200 ≤ i ∧ i < 200 + 5 * jC J)) := decide_eq_true_iff
theorem rl_pos (i : Nat) : 0 < rl i := by unfold rl; split <;> omega
theorem kj_kx {S : CS} {J : JS} (h : RS S J) {q : Nat × Nat} (hq : kj J q = true) : kx S q = true := by
  obtain ⟨h1, h2, ⟨h3, h4, h5⟩, h6, h7, h8, h9, h10⟩ := h
  unfold kj at hq
  unfold kx
  split at hq
  · rename_i c; rw [if_pos c, h9 _ hq]; exact decide_eq_true (rl_pos _)
  · rename_i c; rw [if_neg c]
    split at hq
    · rename_i c; rw [if_pos c]; exact h10 _ (of_decide_eq_true hq)
    · rename_i c; rw [if_neg c]
      split at hq
      · rename_i c; rw [if_pos c, h3]; exact hq
      · rename_i c; rw [if_neg c]
        split at hq
        · rename_i c; rw [if_pos c, h4]; exact hq
        · rename_i c; rw [if_neg c]
          split at hq
          · rename_i c; rw [if_pos c]; exact hq
          · cases hq
theorem jl_zl {S : CS} {J : JS} (h : RS S J) {t i : Nat} (hq : kj J (20 + t, i) = true) : zl S t i = jl t i := by
  unfold zl jl
  by_cases ht : t = 1
  · subst ht
    rw [if_pos rfl, if_pos rfl]
    refine h.2.2.2.2.2.2.1 i ?_
    unfold kj at hq
    rw [if_pos (Or.inr rfl)] at hq
    exact hq
  · rw [if_neg ht, if_neg ht]
theorem rl_le (i : Nat) : rl i < 19999 := by
  unfold rl
  exact ite_lt (by omega) (by omega)
theorem jl_le (t i : Nat) : jl t i < 19999 := by
  unfold jl
  refine ite_lt (rl_le i) ?_
  repeat (refine ite_lt (by omega) ?_)
  omega
theorem sj_E0 {q : Nat × Nat} {f : Unit → CM α} {f' : JM β} (hq : ∀ J, kj J q = true) (h2 : Sj g (f ()) f') : Sj g (cb (cE q) f) f' := fun W v W' e S hS => by
  obtain ⟨S2, e2, r2⟩ := h2 W v W' e S hS
  refine ⟨S2, ?_, r2⟩
  unfold cb cE
  rw [if_pos (kj_kx hS (hq W))]
  exact e2
theorem sj_E {q : Nat × Nat} : Sj (fun x : Unit => x) (cE q) (jE q) := fun W v W' e S hS => by
  unfold jE at e
  split at e
  · rename_i hc
    cases e
    exact ⟨S, by unfold cE; rw [if_pos (kj_kx hS hc)], hS⟩
  · cases e
theorem sj_G {t i : Nat} : Sj iI (cG t i) (jG t i) := fun W v W' e S hS => by
  unfold jG at e
  split at e
  · rename_i hc
    cases e
    exact ⟨S, by unfold cG; rw [if_pos (kj_kx hS hc), hS.1], hS⟩
  · cases e
theorem sj_P {t i : Nat} {x : Int32} {a : Int} (h : x = iI a) : Sj (fun x : Unit => x) (cP t i x) (jP t i a) := fun W v W' e S hS => by
  unfold jP at e
  split at e
  · rename_i hc
    cases e
    refine ⟨us1 S t i x, by unfold cP; rw [if_pos (kj_kx hS hc)], ⟨fun a' b' => ?_, hS.2⟩⟩
    show (if a' = t ∧ b' = i then x else zs S a' b') = iI (if a' = t ∧ b' = i then a else js W a' b')
    split
    · exact h
    · exact hS.1 _ _
  · cases e
theorem sj_A {t i : Nat} {x : Int32} {k : Int} (h : x = iI k) : Sj iI (cA t i x) (jA t i k) := fun W v W' e S hS => by
  unfold jA at e
  split at e
  · rename_i hc
    cases e
    have hl := jl_le t i
    obtain ⟨q1, q2⟩ := R32.nn h hc.2.2.1 hc.2.2.2 (by omega)
    refine ⟨S, ?_, hS⟩
    unfold cA
    rw [if_pos ⟨kj_kx hS hc.1, hc.2.1, by rw [jl_zl hS hc.1]; exact q1⟩, q2, hS.2.1, Int.toNat_of_nonneg hc.2.2.1]
  · cases e
theorem sj_Ab {t i : Nat} {x : Int32} {k : Int} (h : x = iI k) : Sj iI (cAb t i x) (jAb t i k) := fun W v W' e S hS => by
  unfold jAb at e
  split at e
  · rename_i hc
    cases e
    have hl := jl_le t i
    obtain ⟨q1, q2⟩ := R32.nn h hc.2.2.1 hc.2.2.2 (by omega)
    refine ⟨S, ?_, hS⟩
    unfold cAb
    rw [if_pos ⟨kj_kx hS hc.1, hc.2.1, by rw [jl_zl hS hc.1]; exact q1⟩, q2, hS.2.1, Int.toNat_of_nonneg hc.2.2.1]
  · cases e
theorem RS.us2 {S : CS} {J : JS} (hS : RS S J) {t i : Nat} {k a : Int} (h0 : 0 ≤ k) : RS (us2 S t i k.toNat (iI a)) (ju2 J t i k a) := by
  refine ⟨hS.1, fun t' i' l => ?_, hS.2.2⟩
  show (if t' = t ∧ i' = i then upd (za S t i) k.toNat (iI a) else za S t' i') l = iI (if t' = t ∧ i' = i ∧ (l : Int) = k then a else ja J t' i' l)
  by_cases hj : t' = t ∧ i' = i
  · obtain ⟨rfl, rfl⟩ := hj
    rw [if_pos ⟨rfl, rfl⟩]
    unfold upd
    by_cases hl : l = k.toNat
    · rw [if_pos hl, if_pos ⟨rfl, rfl, by omega⟩]
    · rw [if_neg hl, if_neg (by rintro ⟨-, -, q⟩; omega)]
      exact hS.2.1 _ _ _
  · rw [if_neg hj, if_neg (by rintro ⟨q, q2, -⟩; exact hj ⟨q, q2⟩)]
    exact hS.2.1 _ _ _
theorem sj_S {t i : Nat} {x y : Int32} {k a : Int} (h : x = iI k) (h' : y = iI a) : Sj (fun x : Unit => x) (cS t i x y) (jS t i k a) := fun W v W' e S hS => by
  unfold jS at e
  split at e
  · rename_i hc
    cases e
    have hl := jl_le t i
    obtain ⟨q1, q2⟩ := R32.nn h hc.2.2.1 hc.2.2.2 (by omega)
    refine ⟨_, ?_, RS.us2 hS hc.2.2.1⟩
    unfold cS
    rw [if_pos ⟨kj_kx hS hc.1, hc.2.1, by rw [jl_zl hS hc.1]; exact q1⟩, q2, h']
  · cases e
theorem sj_Sb {t i : Nat} {x y : Int32} {k a : Int} (h : x = iI k) (h' : y = iI a) : Sj (fun x : Unit => x) (cSb t i x y) (jSb t i k a) := fun W v W' e S hS => by
  unfold jSb at e
  split at e
  · rename_i hc
    cases e
    have hl := jl_le t i
    obtain ⟨q1, q2⟩ := R32.nn h hc.2.2.1 hc.2.2.2 (by omega)
    refine ⟨_, ?_, RS.us2 hS hc.2.2.1⟩
    unfold cSb
    rw [if_pos ⟨kj_kx hS hc.1, hc.2.1, by rw [jl_zl hS hc.1]; exact q1⟩, q2, vp_nar_byte, eB8 h']
  · cases e
theorem sj_N {t i : Nat} : Sj iI (cN t i) (jN t i) := fun W v W' e S hS => by
  unfold jN at e
  split at e
  · rename_i hc
    cases e
    exact ⟨S, by unfold cN; rw [if_pos (kj_kx hS hc), jl_zl hS hc, nI_iI], hS⟩
  · cases e
theorem sj_Bk {x : Int32} {k : Int} (h : x = iI k) : Sj (fun x : Option Nat => x) (cBk x) (jBk k) := fun W v W' e S hS => by
  unfold jBk at e
  split at e
  · rename_i hc
    cases e
    obtain ⟨q1, q2⟩ := R32.nn (n := 8) h hc.1 hc.2 (by omega)
    exact ⟨S, by unfold cBk; rw [if_pos q1, q2, hS.2.2.2.1.1], hS⟩
  · cases e
theorem sj_Ck {x : Int32} {k : Int} (h : x = iI k) : Sj (fun x : Option Nat => x) (cCk x) (jCk k) := fun W v W' e S hS => by
  unfold jCk at e
  split at e
  · rename_i hc
    cases e
    obtain ⟨q1, q2⟩ := R32.nn (n := 16) h hc.1 hc.2 (by omega)
    exact ⟨S, by unfold cCk; rw [if_pos q1, q2, hS.2.2.2.1.2], hS⟩
  · cases e
theorem kx3 {S : CS} {J : JS} (h : RS S J) {b : Nat} (hb : b < jB J) : kx S (3, b) = true := by
  rw [← h.2.2.1.1] at hb
  exact decide_eq_true hb
theorem kx4 {S : CS} {J : JS} (h : RS S J) {b : Nat} (hb : b < jC J) : kx S (4, b) = true := by
  rw [← h.2.2.1.2.1] at hb
  exact decide_eq_true hb
theorem sj_W {b : Nat} : Sj (fun x : Nat => x) (cW b) (jW b) := fun W v W' e S hS => by
  unfold jW at e
  split at e
  · rename_i hc
    cases e
    exact ⟨S, by unfold cW; rw [if_pos (kx3 hS hc), hS.2.2.2.2.2.1.1], hS⟩
  · cases e
theorem sj_R {b : Nat} : Sj (fun x : Nat => x) (cR b) (jR b) := fun W v W' e S hS => by
  unfold jR at e
  split at e
  · rename_i hc
    cases e
    exact ⟨S, by unfold cR; rw [if_pos (kx4 hS hc), hS.2.2.2.2.2.1.2.1], hS⟩
  · cases e
theorem sj_T {b : Nat} : Sj (fun x : Nat => x) (cT b) (jTx b) := fun W v W' e S hS => by
  unfold jTx at e
  split at e
  · rename_i hc
    cases e
    exact ⟨S, by unfold cT; rw [if_pos (kx4 hS hc), hS.2.2.2.2.2.1.2.2], hS⟩
  · cases e
theorem RS.usA {S : CS} {J : JS} (hS : RS S J) {t i : Nat} {F : Nat → Int32} {G : Int → Int} (h0 : ∀ k : Nat, F k = iI (G k)) : RS (usA S t i F) (juA J t i G) := by
  refine ⟨hS.1, fun t' i' l => ?_, hS.2.2⟩
  show (if t' = t ∧ i' = i then F else za S t' i') l = iI (if t' = t ∧ i' = i then G l else ja J t' i' l)
  split
  · exact h0 l
  · exact hS.2.1 _ _ _
theorem sj_Fi {t i : Nat} {b : Bool} {x : Int32} {a : Int} (h : x = iI a) : Sj (fun x : Unit => x) (cFi t i b x) (jFi t i b a) := fun W v W' e S hS => by
  unfold jFi at e
  split at e
  · rename_i hc
    cases e
    refine ⟨_, by unfold cFi; rw [if_pos ⟨kj_kx hS hc.1, hc.2, by rw [jl_zl hS hc.1]; exact jl_le t i⟩], RS.usA hS fun k => ?_⟩
    rw [jl_zl hS hc.1]
    by_cases hk : k < jl t i
    · have hk' : (k : Int) < (jl t i : Int) := by omega
      rw [if_pos hk, if_pos hk']
      cases b with
      | true => show vp_nar .byte x = iI (iB8 a); rw [vp_nar_byte, eB8 h]
      | false => show x = iI a; exact h
    · have hk' : ¬ (k : Int) < (jl t i : Int) := by omega
      rw [if_neg hk, if_neg hk']
      exact hS.2.1 _ _ _
  · cases e
theorem sj_Cp {t i t2 i2 : Nat} {x : Int32} {n : Int} (h : x = iI n) : Sj (fun x : Unit => x) (cCp t i t2 i2 x) (jCp t i t2 i2 n) := fun W v W' e S hS => by
  unfold jCp at e
  split at e
  · rename_i hc
    cases e
    obtain ⟨c1, c2, c3, c4, c5, c6, c7⟩ := hc
    have hl := jl_le t i
    have q0 : x.toNatClampNeg = n.toNat := by rw [h]; exact iI_clamp (by omega) (by omega)
    have q1 : ¬ x < 0 := by
      rw [h, show (0 : Int32) = iI 0 from rfl, iI_lt (by omega) (by omega) (by omega) (by omega)]
      omega
    have q3 : by2 t = true → ∀ j, j < x.toNatClampNeg → (za S t i j).toInt8.toInt32 = za S t i j := fun hb j hj => by
      rw [hS.2.1, eB8 rfl, c7 hb ⟨j, by omega⟩]
    refine ⟨_, by unfold cCp; rw [if_pos ⟨kj_kx hS c1, kj_kx hS c2, c3, q1, by rw [q0, jl_zl hS c1]; omega, by rw [q0, jl_zl hS c2]; omega, q3⟩], RS.usA hS fun k => ?_⟩
    · unfold va_cpy
      by_cases hk : (k : Int) < n
      · rw [if_pos (by omega), if_pos hk, hS.2.1]
        simp
      · rw [if_neg (by omega), if_neg hk]
        exact hS.2.1 _ _ _
  · cases e
theorem sj_dI {x y : Int32} {a b : Int} (h : x = iI a) (h' : y = iI b) : Sj iI (cdI x y) (jdI a b) := fun W v W' e S hS => by
  unfold jdI at e
  split at e
  · rename_i hc
    cases e
    refine ⟨S, ?_, hS⟩
    unfold cdI
    rw [h, h', if_neg (ne0_iI hc.1 hc.2.2.2), iI_div hc.2.1 hc.2.2.1 hc.2.2.2.1 hc.2.2.2.2]
    rfl
  · cases e
theorem sj_rI {x y : Int32} {a b : Int} (h : x = iI a) (h' : y = iI b) : Sj iI (crI x y) (jrI a b) := fun W v W' e S hS => by
  unfold jrI at e
  split at e
  · rename_i hc
    cases e
    refine ⟨S, ?_, hS⟩
    unfold crI
    rw [h, h', if_neg (ne0_iI hc.1 hc.2.2.2), iI_div hc.2.1 hc.2.2.1 hc.2.2.2.1 hc.2.2.2.2, iI_mul, iI_sub]
    rfl
  · cases e
theorem sj_nz {x : Int32} {a : Int} (h : x = iI a) : Sj iI (cnz x) (jnz a) := fun W v W' e S hS => by
  unfold jnz at e
  split at e
  · rename_i hc
    cases e
    refine ⟨S, ?_, hS⟩
    unfold cnz
    rw [if_pos (i01 h hc), h]
    rfl
  · cases e
theorem sj_Sl {i : Nat} : Sj iI (cSl i) (jSl i) := fun W v W' e S hS => by
  unfold jSl at e
  split at e
  · rename_i hc
    cases e
    refine ⟨S, ?_, hS⟩
    unfold cSl
    rw [hS.2.2.1.2.2, hS.2.2.2.2.1.1, if_pos hc, nI_iI]
  · cases e
theorem sj_Sc {i : Nat} {x : Int32} {k : Int} (h : x = iI k) : Sj iI (cSc i x) (jSc i k) := fun W v W' e S hS => by
  unfold jSc at e
  split at e
  · rename_i hc
    cases e
    obtain ⟨q1, q2⟩ := R32.nn h hc.2.1 hc.2.2.1 hc.2.2.2
    refine ⟨S, ?_, hS⟩
    unfold cSc
    rw [hS.2.2.1.2.2, hS.2.2.2.2.1.1, if_pos ⟨hc.1, q1⟩, q2, nI_iI]
  · cases e
theorem sj_Si {i : Nat} {x : Int32} {k : Int} (h : x = iI k) : Sj iI (cSi i x) (jSi i k) := fun W v W' e S hS => by
  unfold jSi at e
  split at e
  · rename_i hc
    cases e
    obtain ⟨q1, q2⟩ := R32.nn (n := 256) h hc.2.2.1 hc.2.2.2 (by omega)
    refine ⟨S, ?_, hS⟩
    unfold cSi
    rw [hS.2.2.1.2.2, hS.2.2.2.2.1.1, if_pos ⟨hc.1, hc.2.1, q1⟩, q2, idxZ_A]
  · cases e
theorem sj_Sq {i j : Nat} : Sj iI (cSq i j) (jSq i j) := fun W v W' e S hS => by
  unfold jSq at e
  split at e
  · rename_i hc
    cases e
    refine ⟨S, ?_, hS⟩
    unfold cSq
    rw [hS.2.2.1.2.2, hS.2.2.2.2.1.1, if_pos hc]
    congr 2
    split <;> rfl
  · cases e
theorem RS.ux {S : CS} {J : JS} (hS : RS S J) (l : List Nat) : RS (uxS S l) (jux J l) := ⟨hS.1, hS.2.1, hS.2.2.1, hS.2.2.2.1, ⟨hS.2.2.2.2.1.1, rfl⟩, hS.2.2.2.2.2⟩
theorem sj_Xl : Sj iI cXl jXl := fun W v W' e S hS => by
  cases e
  exact ⟨S, by unfold cXl; rw [hS.2.2.2.2.1.2, nI_iI], hS⟩
theorem sj_X0 : Sj (fun x : Unit => x) cX0 jX0 := fun W v W' e S hS => by
  cases e
  exact ⟨_, rfl, hS.ux []⟩
theorem sj_Xc {x : Int32} {c : Int} (h : x = iI c) : Sj (fun x : Unit => x) (cXc x) (jXc c) := fun W v W' e S hS => by
  unfold jXc at e
  split at e
  · rename_i hc
    cases e
    obtain ⟨q1, q2⟩ := R32.nn (n := 256) h hc.1.1 hc.1.2 (by omega)
    refine ⟨_, ?_, hS.ux _⟩
    unfold cXc
    rw [hS.2.2.2.2.1.2, if_pos ⟨q1, hc.2⟩, q2]
  · cases e
theorem sj_Xs {i : Nat} : Sj (fun x : Unit => x) (cXs i) (jXs i) := fun W v W' e S hS => by
  unfold jXs at e
  split at e
  · rename_i hc
    cases e
    refine ⟨_, ?_, hS.ux _⟩
    unfold cXs
    rw [hS.2.2.2.2.1.2, hS.2.2.2.2.1.1, hS.2.2.1.2.2, if_pos hc]
  · cases e
theorem sj_Xi {x : Int32} {c : Int} (h : x = iI c) : Sj (fun x : Unit => x) (cXi x) (jXi c) := fun W v W' e S hS => by
  unfold jXi at e
  split at e
  · rename_i hc
    cases e
    obtain ⟨q1, q2⟩ := R32.nn (n := 100) h hc.1.1 hc.1.2 (by omega)
    refine ⟨_, ?_, hS.ux _⟩
    unfold cXi
    rw [hS.2.2.2.2.1.2, if_pos ⟨q1, hc.2⟩, q2]
  · cases e
theorem sj_Tos {L : Nat} : Sj (fun x : Nat => x) (cTos L) (jTos L) := fun W v W' e S hS => by
  unfold jTos at e
  split at e
  · rename_i hc
    cases e
    obtain ⟨h1, h2, ⟨h3, h4, h5⟩, h6, ⟨h7, h7'⟩, h8, h9, h10⟩ := hS
    refine ⟨uT S, by unfold cTos; rw [h7', if_pos hc, h5], h1, h2, ⟨h3, h4, congrArg (· + 1) h5⟩, h6, ⟨?_, h7'⟩, h8, h9, h10⟩
    show (fun j => if j = zT S then zx S else zt S j) = _
    rw [h5, h7', h7]
    rfl
  · cases e
theorem sj_NB {s : Nat} : Sj (fun x : Nat => x) (cNB s) (jNB s) := fun W v W' e S hS => by
  unfold jNB at e
  split at e
  · rename_i hc
    cases e
    obtain ⟨h1, h2, ⟨h3, h4, h5⟩, h6, h7, ⟨h8, h8', h8''⟩, h9, h10⟩ := hS
    refine ⟨uB S s, by unfold cNB; rw [h3, h5, if_pos hc], fun t i => ?_, fun t i k => ?_, ⟨congrArg (· + 1) h3, h4, h5⟩, h6, h7, ⟨?_, h8', h8''⟩, fun i hi => ?_, fun p hp => ?_⟩
    · show (if t = 1 ∧ 100 + 4 * zB S ≤ i ∧ i < 104 + 4 * zB S then 0 else if t = 6 ∧ i = zB S + 1 then 0 else if t = 7 ∧ i = zB S + 1 then -1 else zs S t i) = iI (if t = 1 ∧ 100 + 4 * jB W ≤ i ∧ i < 104 + 4 * jB W then 0 else if t = 6 ∧ i = jB W + 1 then 0 else if t = 7 ∧ i = jB W + 1 then -1 else js W t i)
      rw [h3]
      split
      · rfl
      · split
        · rfl
        · split
          · rfl
          · exact h1 _ _
    · show (if (t = 1 ∧ 100 + 4 * zB S ≤ i ∧ i < 104 + 4 * zB S) ∨ ((t = 3 ∨ t = 4 ∨ t = 5 ∨ t = 6) ∧ i = zB S + 1) ∨ (t = 7 ∧ i = zB S) then (fun _ => 0) else za S t i) k = iI (if (t = 1 ∧ 100 + 4 * jB W ≤ i ∧ i < 104 + 4 * jB W) ∨ ((t = 3 ∨ t = 4 ∨ t = 5 ∨ t = 6) ∧ i = jB W + 1) ∨ (t = 7 ∧ i = jB W) then 0 else ja W t i k)
      rw [h3]
      split
      · rfl
      · exact h2 _ _ _
    · show (fun i => if i = zB S then s else zw S i) = (fun i => if i = jB W then s else jw W i)
      rw [h3, h8]
    · show (if 100 + 4 * zB S ≤ i ∧ i < 104 + 4 * zB S then 400 else zc S i) = rl i
      have hi' := rx_iff.mp hi
      replace hi' : i ≤ 12 ∨ (100 ≤ i ∧ i < 100 + 4 * (jB W + 1)) ∨ (200 ≤ i ∧ i < 200 + 5 * jC W) := hi'
      split
      · unfold rl; rw [if_neg (by omega)]
      · exact h9 i (rx_iff.mpr (by omega))
    · show (if p = zB S + 1 then true else zp S p) = true
      replace hp : p ≤ jB W + 1 := hp
      split
      · rfl
      · exact h10 p (by omega)
  · cases e
theorem sj_NC {x : Int32} {n : Int} {b s : Nat} (h : x = iI n) : Sj (fun x : Nat => x) (cNC x b s) (jNC n b s) := fun W v W' e S hS => by
  unfold jNC at e
  split at e
  · rename_i hc
    cases e
    obtain ⟨h1, h2, ⟨h3, h4, h5⟩, h6, h7, ⟨h8, h8', h8''⟩, h9, h10⟩ := hS
    refine ⟨uC S x b s, by unfold cNC; rw [h3, h5, h4, if_pos hc], fun t i => ?_, fun t i k => ?_, ⟨h3, congrArg (· + 1) h4, h5⟩, h6, h7, ⟨h8, ?_, ?_⟩, fun i hi => ?_, h10⟩
    · show (if t = 1 ∧ 200 + 5 * zC S ≤ i ∧ i < 205 + 5 * zC S then 0 else if t = 12 ∧ i = zC S then x else zs S t i) = iI (if t = 1 ∧ 200 + 5 * jC W ≤ i ∧ i < 205 + 5 * jC W then 0 else if t = 12 ∧ i = jC W then n else js W t i)
      rw [h4]
      split
      · rfl
      · split
        · exact h
        · exact h1 _ _
    · show (if t = 1 ∧ 200 + 5 * zC S ≤ i ∧ i < 205 + 5 * zC S then (fun _ => 0) else za S t i) k = iI (if t = 1 ∧ 200 + 5 * jC W ≤ i ∧ i < 205 + 5 * jC W then 0 else ja W t i k)
      rw [h4]
      split
      · rfl
      · exact h2 _ _ _
    · show (fun i => if i = zC S then b else zr S i) = (fun i => if i = jC W then b else jr W i)
      rw [h4, h8']
    · show (fun i => if i = zC S then s else zn S i) = (fun i => if i = jC W then s else jn W i)
      rw [h4, h8'']
    · show (if 200 + 5 * zC S ≤ i ∧ i < 205 + 5 * zC S then 400 else zc S i) = rl i
      have hi' := rx_iff.mp hi
      replace hi' : i ≤ 12 ∨ (100 ≤ i ∧ i < 100 + 4 * jB W) ∨ (200 ≤ i ∧ i < 200 + 5 * (jC W + 1)) := hi'
      split
      · unfold rl; rw [if_neg (by omega)]
      · exact h9 i (rx_iff.mpr (by omega))
  · cases e
theorem sj_SB {x : Int32} {k : Int} {b : Nat} (h : x = iI k) : Sj (fun x : Unit => x) (cSB x b) (jSB k b) := fun W v W' e S hS => by
  unfold jSB at e
  split at e
  · rename_i hc
    cases e
    obtain ⟨h1, h2, ⟨h3, h4, h5⟩, ⟨h6, h6'⟩, h7⟩ := hS
    obtain ⟨q1, q2⟩ := R32.nn (n := 8) h hc.1 hc.2.1 (by omega)
    refine ⟨(S.1, S.2.1, S.2.2.1, S.2.2.2.1, S.2.2.2.2.1, ((fun i => if i = x.toNatClampNeg then some b else zb S i), zd S), S.2.2.2.2.2.2), by unfold cSB; rw [if_pos ⟨q1, by rw [h3]; exact hc.2.2⟩], h1, h2, ⟨h3, h4, h5⟩, ⟨?_, h6'⟩, h7⟩
    show (fun i => if i = x.toNatClampNeg then some b else zb S i) = (fun i => if i = k.toNat then some b else jb W i)
    rw [q2, h6]
  · cases e
theorem sj_SC {x : Int32} {k : Int} {c : Nat} (h : x = iI k) : Sj (fun x : Unit => x) (cSC x c) (jSC k c) := fun W v W' e S hS => by
  unfold jSC at e
  split at e
  · rename_i hc
    cases e
    obtain ⟨h1, h2, ⟨h3, h4, h5⟩, ⟨h6, h6'⟩, h7⟩ := hS
    obtain ⟨q1, q2⟩ := R32.nn (n := 16) h hc.1 hc.2.1 (by omega)
    refine ⟨(S.1, S.2.1, S.2.2.1, S.2.2.2.1, S.2.2.2.2.1, (zb S, (fun i => if i = x.toNatClampNeg then some c else zd S i)), S.2.2.2.2.2.2), by unfold cSC; rw [if_pos ⟨q1, by rw [h4]; exact hc.2.2⟩], h1, h2, ⟨h3, h4, h5⟩, ⟨h6, ?_⟩, h7⟩
    show (fun i => if i = x.toNatClampNeg then some c else zd S i) = (fun i => if i = k.toNat then some c else jd W i)
    rw [q2, h6']
  · cases e
theorem sj_PN {c s : Nat} : Sj (fun x : Unit => x) (cPN c s) (jPN c s) := fun W v W' e S hS => by
  unfold jPN at e
  split at e
  · rename_i hc
    cases e
    obtain ⟨h1, h2, ⟨h3, h4, h5⟩, h6, h7, ⟨h8, h8', h8''⟩, h9⟩ := hS
    refine ⟨(S.1, S.2.1, S.2.2.1, S.2.2.2.1, S.2.2.2.2.1, S.2.2.2.2.2.1, S.2.2.2.2.2.2.1, S.2.2.2.2.2.2.2.1, (zw S, zr S, fun i => if i = c then s else zn S i)), by unfold cPN; rw [h4, h5, if_pos hc], h1, h2, ⟨h3, h4, h5⟩, h6, h7, ⟨h8, h8', ?_⟩, h9⟩
    show (fun i => if i = c then s else zn S i) = (fun i => if i = c then s else jn W i)
    rw [h8'']
  · cases e
theorem sj_g9 {x : Int32} {a : Int} (h : x = iI a) : Sj iI (cg9 x) (jg9 a) := fun W v W' e S hS => by
  unfold jg9 at e
  split at e
  · rename_i hc
    cases e
    refine ⟨S, ?_, hS⟩
    unfold cg9
    rw [if_neg (fun q => hc.2 ((cEq h (eLn 9) ⟨hc.1, by decide⟩).mp q)), h]
    rfl
  · cases e
end SJJ
