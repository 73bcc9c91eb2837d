/-! ===== programs over whole numbers: what they answer, the programs over ints answer ===== -/
abbrev R32 (z : Int) : Prop := -2147483648 ≤ z ∧ z < 2147483648
def o32 (f : Int32 → Int32) (x : Int) : Int := (f (iI x)).toInt
def o322 (f : Int32 → Int32 → Int32) (x y : Int) : Int := (f (iI x) (iI y)).toInt
def iAnd : Int → Int → Int := o322 fun x y => x &&& y
def iOr : Int → Int → Int := o322 fun x y => x ||| y
def iShr : Int → Int → Int := o322 fun x y => x >>> (y &&& 31)
def iB8 : Int → Int := o32 fun x => x.toInt8.toInt32
def iC16 : Int → Int := o32 fun x => (x.toUInt32 % 65536).toInt32
section EQS
variable {a b : Int} {x y : Int32}
theorem eT (x : Int32) : x = iI x.toInt := (Int32.ofInt_toInt x).symm
theorem eAdd (h1 : x = iI a) (h2 : y = iI b) : x + y = iI (a + b) := by rw [h1, h2, iI_add]
theorem eSub (h1 : x = iI a) (h2 : y = iI b) : x - y = iI (a - b) := by rw [h1, h2, iI_sub]
theorem eMul (h1 : x = iI a) (h2 : y = iI b) : x * y = iI (a * b) := by rw [h1, h2, iI_mul]
theorem eNeg (h1 : x = iI a) : -x = iI (-a) := by rw [h1, iI_neg]
theorem eAnd (h1 : x = iI a) (h2 : y = iI b) : x &&& y = iI (iAnd a b) := by rw [h1, h2]; exact eT _
theorem eOr (h1 : x = iI a) (h2 : y = iI b) : x ||| y = iI (iOr a b) := by rw [h1, h2]; exact eT _
theorem eShr (h1 : x = iI a) (h2 : y = iI b) : x >>> (y &&& 31) = iI (iShr a b) := by rw [h1, h2]; exact eT _
theorem eB8 (h1 : x = iI a) : x.toInt8.toInt32 = iI (iB8 a) := by rw [h1]; exact eT _
theorem eC16 (h1 : x = iI a) : (x.toUInt32 % 65536).toInt32 = iI (iC16 a) := by rw [h1]; exact eT _
theorem eLit (n : Nat) : (OfNat.ofNat n : Int32) = iI (OfNat.ofNat n : Int) := rfl
theorem eLn (n : Nat) : (-(OfNat.ofNat n : Int32)) = iI (-(OfNat.ofNat n : Int)) := by rw [eLit n, iI_neg]
theorem cLt (h1 : x = iI a) (h2 : y = iI b) (h : R32 a ∧ R32 b) : x < y ↔ a < b := by rw [h1, h2]; exact iI_lt h.1.1 h.1.2 h.2.1 h.2.2
theorem cLe (h1 : x = iI a) (h2 : y = iI b) (h : R32 a ∧ R32 b) : x ≤ y ↔ a ≤ b := by rw [h1, h2]; exact iI_le h.1.1 h.1.2 h.2.1 h.2.2
theorem cEq (h1 : x = iI a) (h2 : y = iI b) (h : R32 a ∧ R32 b) : x = y ↔ a = b := by rw [h1, h2]; exact iI_eq h.1.1 h.1.2 h.2.1 h.2.2
theorem eIte {c d : Prop} {d1 : Decidable c} {d2 : Decidable d} (h : c ↔ d) (h1 : x = iI a) (h2 : y = iI b) : (@ite _ c d1 x y) = iI (@ite _ d d2 a b) := by
  by_cases hc : c
  · rw [if_pos hc, if_pos (h.mp hc)]; exact h1
  · rw [if_neg hc, if_neg (fun q => hc (h.mpr q))]; exact h2
theorem R32.nn {n : Nat} (h : x = iI a) (h0 : 0 ≤ a) (h1 : a < n) (hn : n < 2147483648) : inb x n ∧ x.toNatClampNeg = a.toNat := by
  subst h
  exact ⟨(iI_inb (by omega) (by omega)).mpr ⟨h0, h1⟩, iI_clamp (by omega) (by omega)⟩
end EQS
def idxZ (l : List Nat) (c : Nat) : Int := if ixf l c < l.length then (ixf l c : Int) else -1
theorem idxZ_A (l : List Nat) (c : Nat) : idxA l c = iI (idxZ l c) := by
  unfold idxA idxZ
  split
  · exact nI_iI _
  · rfl
/-! the model -/
abbrev IS : Type := (Nat → Int) × (Nat → Int → Int)
abbrev IM (α : Type) : Type := IS → Option (α × IS)
def wI (W : IS) : MS := (fun k => iI (W.1 k), fun k i => iI (W.2 k (i : Int)))
def ir {α : Type} (a : α) : IM α := fun W => some (a, W)
def nof {α σ : Type} : σ → Option (α × σ) := fun _ => none
/-- one after the other, and only if: for both kinds of programs -/
def ib {σ α β : Type} (x : σ → Option (α × σ)) (f : α → σ → Option (β × σ)) : σ → Option (β × σ) := fun W => match x W with
  | none => none
  | some q => f q.1 q.2
def ig {σ α : Type} (c : Prop) [Decidable c] (x : σ → Option (α × σ)) : σ → Option (α × σ) := fun W => if c then x W else none
def iu1 (W : IS) (k : Nat) (x : Int) : IS := (fun j => if j = k then x else W.1 j, W.2)
def iu2 (W : IS) (k : Nat) (i x : Int) : IS := (W.1, fun j l => if j = k ∧ l = i then x else W.2 j l)
def igI (k : Nat) : IM Int := fun W => some (W.1 k, W)
def ipI (k : Nat) (x : Int) : IM Unit := fun W => some ((), iu1 W k x)
def ipZ (k : Nat) (x : Int) : IM Unit := fun W => if x = 0 ∨ x = 1 then some ((), iu1 W k x) else none
def iaI (k : Nat) (i : Int) : IM Int := fun W => if isA k = true ∧ isZ k = false ∧ 0 ≤ i ∧ i < lenM k then some (W.2 k i, W) else none
def iaZ (k : Nat) (i : Int) : IM Int := fun W => if isA k = true ∧ isZ k = true ∧ 0 ≤ i ∧ i < lenM k then some (W.2 k i, W) else none
def isI (k : Nat) (i x : Int) : IM Unit := fun W => if isA k = true ∧ isZ k = false ∧ 0 ≤ i ∧ i < lenM k then some ((), iu2 W k i x) else none
def isZ' (k : Nat) (i x : Int) : IM Unit := fun W => if isA k = true ∧ isZ k = true ∧ (0 ≤ i ∧ i < lenM k) ∧ (x = 0 ∨ x = 1) then some ((), iu2 W k i x) else none
def idI (x y : Int) : IM Int := if y ≠ 0 ∧ -2147483648 < x ∧ x < 2147483648 ∧ R32 y then ir (x.tdiv y) else nof
def irI (x y : Int) : IM Int := if y ≠ 0 ∧ -2147483648 < x ∧ x < 2147483648 ∧ R32 y then ir (x - x.tdiv y * y) else nof
def inz (x : Int) : IM Int := if x = 0 ∨ x = 1 then ir x else nof
def iSl (i : Nat) : IM Int := if i < 19 then ir ((txt i).length : Int) else nof
def iSc (i : Nat) (k : Int) : IM Int := if i < 19 ∧ 0 ≤ k ∧ k < (txt i).length then ir (((txt i).getD k.toNat 0 : Nat) : Int) else nof
def iSi (i : Nat) (c : Int) : IM Int := if i < 19 ∧ 0 ≤ c ∧ c < 256 then ir (idxZ (txt i) c.toNat) else nof
def Si {α β : Type} (g : β → α) (n : NM α) (i : IM β) : Prop := ∀ W v W', i W = some (v, W') → n (wI W) = some (g v, wI W')
section SII
variable {α β γ δ : Type} {g : β → α}
theorem si_nf {n : NM α} : Si g n nof := fun W v W' e => by cases e
theorem si_ret {a : β} : Si g (nr (g a)) (ir a) := fun W v W' e => by cases e; rfl
theorem si_re {x : Int32} {a : Int} (h : x = iI a) : Si iI (nr x) (ir a) := by subst h; exact si_ret
theorem si_rn {a : β} : Si (fun x : β => x) (nr a) (ir a) := fun W v W' e => by cases e; rfl
theorem si_ite {c d : Prop} {d1 : Decidable c} {d2 : Decidable d} {A B : NM α} {a b : IM β} (h : c ↔ d) (h1 : Si g A a) (h2 : Si g B b) : Si g (@ite _ c d1 A B) (@ite _ d d2 a b) := by
  by_cases hc : c
  · rw [if_pos hc, if_pos (h.mp hc)]; exact h1
  · rw [if_neg hc, if_neg (fun q => hc (h.mpr q))]; exact h2
theorem si_ig {c : Prop} {d : Decidable c} {A : NM α} {a : IM β} (h : c → Si g A a) : Si g A (ig c a) := fun W v W' e => by
  unfold ig at e
  by_cases hc : c
  · rw [if_pos hc] at e; exact h hc W v W' e
  · rw [if_neg hc] at e; cases e
theorem si_b {k : δ → γ} {y : NM γ} {z : IM δ} {F : γ → NM α} {f : δ → IM β} (h1 : Si k y z) (h2 : ∀ v, Si g (F (k v)) (f v)) : Si g (nb y F) (ib z f) := fun W v W' e => by
  unfold ib at e
  cases hz : z W with
  | none => rw [hz] at e; cases e
  | some q =>
    rw [hz] at e
    unfold nb
    rw [h1 W q.1 q.2 hz]
    exact h2 q.1 q.2 v W' e
theorem ite_lt {c : Prop} {d : Decidable c} {a b n : Nat} (h1 : a < n) (h2 : b < n) : (@ite _ c d a b) < n := by
  by_cases h : c
  · rw [if_pos h]; exact h1
  · rw [if_neg h]; exact h2
theorem lenM_le (k : Nat) : lenM k < 2147483648 := by
  unfold lenM
  repeat (refine ite_lt (by omega) ?_)
  omega
theorem wI_ups {W : IS} {k : Nat} {a : Int} : ups (wI W) k (iI a) = wI (iu1 W k a) := by
  unfold ups wI iu1
  refine Prod.ext (funext fun j => ?_) rfl
  show (if j = k then iI a else iI (W.1 j)) = iI (if j = k then a else W.1 j)
  split <;> rfl
theorem wI_upa {W : IS} {k : Nat} {i a : Int} (h : 0 ≤ i) : upa (wI W) k i.toNat (iI a) = wI (iu2 W k i a) := by
  unfold upa wI iu2
  refine Prod.ext rfl (funext fun j => funext fun l => ?_)
  show (if j = k then upd (fun i => iI (W.2 k (i : Int))) i.toNat (iI a) else fun i => iI (W.2 j (i : Int))) l = iI (if j = k ∧ (l : Int) = i then a else W.2 j l)
  by_cases hj : j = k
  · subst hj
    rw [if_pos rfl]
    unfold upd
    by_cases hl : l = i.toNat
    · rw [if_pos hl, if_pos ⟨rfl, by omega⟩]
    · rw [if_neg hl, if_neg (by rintro ⟨-, q⟩; omega)]
  · rw [if_neg hj, if_neg (by rintro ⟨q, -⟩; exact hj q)]
theorem si_gI {k : Nat} : Si iI (ngI k) (igI k) := fun W v W' e => by cases e; rfl
theorem si_pI {k : Nat} {x : Int32} {a : Int} (h : x = iI a) : Si (fun x : Unit => x) (npI k x) (ipI k a) := fun W v W' e => by
  subst h; cases e
  show some ((), ups (wI W) k (iI a)) = _
  rw [wI_ups]
theorem si_pZ {k : Nat} {x : Int32} {a : Int} (h : x = iI a) : Si (fun x : Unit => x) (npZ k x) (ipZ k a) := fun W v W' e => by
  unfold ipZ at e
  by_cases hc : a = 0 ∨ a = 1
  · rw [if_pos hc] at e
    subst h; cases e
    unfold npZ
    rw [if_pos (by rcases hc with q | q <;> (subst q; first | exact Or.inl rfl | exact Or.inr rfl)), wI_ups]
  · rw [if_neg hc] at e; cases e
theorem si_aI {k : Nat} {x : Int32} {i : Int} (h : x = iI i) : Si iI (naI k x) (iaI k i) := fun W v W' e => by
  unfold iaI at e
  split at e
  · rename_i hc
    cases e
    obtain ⟨q1, q2⟩ := R32.nn h hc.2.2.1 hc.2.2.2 (lenM_le k)
    unfold naI
    rw [if_pos ⟨hc.1, hc.2.1, q1⟩, q2]
    show some (iI (W.2 k ((i.toNat : Nat) : Int)), _) = _
    rw [Int.toNat_of_nonneg hc.2.2.1]
  · cases e
theorem si_aZ {k : Nat} {x : Int32} {i : Int} (h : x = iI i) : Si iI (naZ k x) (iaZ k i) := fun W v W' e => by
  unfold iaZ at e
  split at e
  · rename_i hc
    cases e
    obtain ⟨q1, q2⟩ := R32.nn h hc.2.2.1 hc.2.2.2 (lenM_le k)
    unfold naZ
    rw [if_pos ⟨hc.1, hc.2.1, q1⟩, q2]
    show some (iI (W.2 k ((i.toNat : Nat) : Int)), _) = _
    rw [Int.toNat_of_nonneg hc.2.2.1]
  · cases e
theorem si_sI {k : Nat} {x y : Int32} {i a : Int} (h : x = iI i) (h' : y = iI a) : Si (fun x : Unit => x) (nsI k x y) (isI k i a) := fun W v W' e => by
  unfold isI at e
  split at e
  · rename_i hc
    cases e
    obtain ⟨q1, q2⟩ := R32.nn h hc.2.2.1 hc.2.2.2 (lenM_le k)
    unfold nsI
    rw [if_pos ⟨hc.1, hc.2.1, q1⟩, q2, h', wI_upa hc.2.2.1]
  · cases e
theorem si_sZ {k : Nat} {x y : Int32} {i a : Int} (h : x = iI i) (h' : y = iI a) : Si (fun x : Unit => x) (nsZ k x y) (isZ' k i a) := fun W v W' e => by
  unfold isZ' at e
  split at e
  · rename_i hc
    cases e
    obtain ⟨q1, q2⟩ := R32.nn h hc.2.2.1.1 hc.2.2.1.2 (lenM_le k)
    unfold nsZ
    rw [if_pos ⟨hc.1, hc.2.1, q1, by rw [h']; rcases hc.2.2.2 with q | q <;> (subst q; first | exact Or.inl rfl | exact Or.inr rfl)⟩, q2, h', wI_upa hc.2.2.1.1]
  · cases e
theorem ne0_iI {b : Int} (h : b ≠ 0) (hb : R32 b) : ¬ iI b = 0 := by
  intro q
  exact h ((iI_eq (b := 0) hb.1 hb.2 (by omega) (by omega)).mp q)
theorem si_dI {x y : Int32} {a b : Int} (h : x = iI a) (h' : y = iI b) : Si iI (ndI x y) (idI a b) := fun W v W' e => by
  unfold idI at e
  split at e
  · rename_i hc
    cases e
    unfold ndI
    rw [h, h', if_neg (ne0_iI hc.1 hc.2.2.2), iI_div hc.2.1 hc.2.2.1 hc.2.2.2.1 hc.2.2.2.2]
    rfl
  · cases e
theorem si_rI {x y : Int32} {a b : Int} (h : x = iI a) (h' : y = iI b) : Si iI (nrI x y) (irI a b) := fun W v W' e => by
  unfold irI at e
  split at e
  · rename_i hc
    cases e
    unfold nrI
    rw [h, h', if_neg (ne0_iI hc.1 hc.2.2.2), iI_div hc.2.1 hc.2.2.1 hc.2.2.2.1 hc.2.2.2.2, iI_mul, iI_sub]
    rfl
  · cases e
theorem i01 {x : Int32} {a : Int} (h : x = iI a) (hc : a = 0 ∨ a = 1) : x = 0 ∨ x = 1 := by
  subst h
  rcases hc with q | q <;> (subst q; first | exact Or.inl rfl | exact Or.inr rfl)
theorem si_nz {x : Int32} {a : Int} (h : x = iI a) : Si iI (nnz x) (inz a) := fun W v W' e => by
  unfold inz at e
  split at e
  · rename_i hc
    cases e
    unfold nnz
    rw [if_pos (i01 h hc), h]
    rfl
  · cases e
theorem si_Sl {i : Nat} : Si iI (nSl i) (iSl i) := fun W v W' e => by
  unfold iSl at e
  split at e
  · rename_i hc
    cases e
    unfold nSl
    rw [if_pos hc, nI_iI]
    rfl
  · cases e
theorem txt_le (i : Nat) (hi : i < 19) : (txt i).length < 100 := by
  have key : ∀ i : Fin 19, (txt i.1).length < 100 := by decide +kernel
  exact key ⟨i, hi⟩
theorem si_Sc {i : Nat} {x : Int32} {k : Int} (h : x = iI k) : Si iI (nSc i x) (iSc i k) := fun W v W' e => by
  unfold iSc at e
  split at e
  · rename_i hc
    cases e
    have hl := txt_le i hc.1
    obtain ⟨q1, q2⟩ := R32.nn h hc.2.1 hc.2.2 (by omega)
    unfold nSc
    rw [if_pos ⟨hc.1, q1⟩, q2, nI_iI]
    rfl
  · cases e
theorem si_Si {i : Nat} {x : Int32} {k : Int} (h : x = iI k) : Si iI (nSi i x) (iSi i k) := fun W v W' e => by
  unfold iSi at e
  split at e
  · rename_i hc
    cases e
    obtain ⟨q1, q2⟩ := R32.nn (n := 256) h hc.2.1 hc.2.2 (by omega)
    unfold nSi
    rw [if_pos ⟨hc.1, q1⟩, q2, idxZ_A]
    rfl
  · cases e
end SII
