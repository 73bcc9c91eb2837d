/-! ===== what a program over whole numbers comes to ===== -/
def wp {σ α : Type} (x : σ → Option (α × σ)) (Q : α → σ → Prop) (s : σ) : Prop := match x s with
  | none => False
  | some q => Q q.1 q.2
section WPP
variable {σ α β : Type} {s : σ} {Q : α → σ → Prop}
theorem wp_ib {x : σ → Option (β × σ)} {f : β → σ → Option (α × σ)} : wp (ib x f) Q s = wp x (fun v s' => wp (f v) Q s') s := by
  unfold wp ib
  cases x s <;> rfl
theorem wp_ig {c : Prop} {d : Decidable c} {x : σ → Option (α × σ)} : wp (ig c x) Q s = (c ∧ wp x Q s) := by
  unfold wp ig
  by_cases h : c
  · rw [if_pos h]; exact propext ⟨fun q => ⟨h, q⟩, fun q => q.2⟩
  · rw [if_neg h]; exact propext ⟨fun q => q.elim, fun q => absurd q.1 h⟩
theorem wp_ite {c : Prop} {d : Decidable c} {A B : σ → Option (α × σ)} : wp (if c then A else B) Q s = if c then wp A Q s else wp B Q s := by
  split <;> rfl
theorem wp_nof : wp (nof : σ → Option (α × σ)) Q s = False := rfl
theorem wp_ret {a : α} {s' : σ} {x : σ → Option (α × σ)} (h : x s = some (a, s')) : wp x Q s = Q a s' := by
  unfold wp; rw [h]
theorem wp_mono {x : σ → Option (α × σ)} {P : α → σ → Prop} (h : wp x P s) (hq : ∀ v s', P v s' → Q v s') : wp x Q s := by
  unfold wp at h ⊢
  cases hx : x s with
  | none => rw [hx] at h; exact h
  | some q => rw [hx] at h; exact hq _ _ h
theorem wp_eq {x : σ → Option (α × σ)} {a : α} {s' : σ} (h : wp x (fun v t => v = a ∧ t = s') s) : x s = some (a, s') := by
  unfold wp at h
  cases hx : x s with
  | none => rw [hx] at h; exact h.elim
  | some q => rw [hx] at h; obtain ⟨h1, h2⟩ := h; rw [← h1, ← h2]
theorem wp_ex {x : σ → Option (α × σ)} (h : wp x Q s) : ∃ v s', x s = some (v, s') ∧ Q v s' := by
  unfold wp at h
  cases hx : x s with
  | none => rw [hx] at h; exact h.elim
  | some q => rw [hx] at h; exact ⟨q.1, q.2, rfl, h⟩
theorem wp_if {x : σ → Option (α × σ)} {c : Prop} {d : Decidable c} {a : α} {V : σ} (h : x s = if c then some (a, V) else none) : wp x Q s = (c ∧ Q a V) := by
  unfold wp
  rw [h]
  by_cases hc : c
  · rw [if_pos hc]; exact propext ⟨fun q => ⟨hc, q⟩, fun q => q.2⟩
  · rw [if_neg hc]; exact propext ⟨fun q => q.elim, fun q => absurd q.1 hc⟩
end WPP
section WPM
variable {W : IS} {α : Type}
theorem wp_ir {a : α} {Q : α → IS → Prop} : wp (ir a) Q W = Q a W := rfl
theorem wp_igI {k : Nat} {Q : Int → IS → Prop} : wp (igI k) Q W = Q (W.1 k) W := rfl
theorem wp_ipI {k : Nat} {x : Int} {Q : Unit → IS → Prop} : wp (ipI k x) Q W = Q () (iu1 W k x) := rfl
theorem wp_ipZ {k : Nat} {x : Int} {Q : Unit → IS → Prop} : wp (ipZ k x) Q W = ((x = 0 ∨ x = 1) ∧ Q () (iu1 W k x)) := by
  unfold wp ipZ
  split
  · rename_i h1; split at h1
    · cases h1
    · rename_i h; exact propext ⟨fun q => q.elim, fun q => absurd q.1 h⟩
  · rename_i h1; split at h1
    · rename_i h; cases h1; exact propext ⟨fun q => ⟨h, q⟩, fun q => q.2⟩
    · cases h1
theorem wp_opt2 {c : Prop} {d : Decidable c} {x : IM α} {Q : α → IS → Prop} : wp (if c then x else nof) Q W = (c ∧ wp x Q W) := by
  by_cases h : c
  · rw [if_pos h]; exact propext ⟨fun q => ⟨h, q⟩, fun q => q.2⟩
  · rw [if_neg h]; exact propext ⟨fun q => q.elim, fun q => absurd q.1 h⟩
theorem wp_inz {x : Int} {Q : Int → IS → Prop} : wp (inz x) Q W = ((x = 0 ∨ x = 1) ∧ Q x W) := wp_opt2
theorem wp_idI {x y : Int} {Q : Int → IS → Prop} : wp (idI x y) Q W = ((y ≠ 0 ∧ -2147483648 < x ∧ x < 2147483648 ∧ R32 y) ∧ Q (x.tdiv y) W) := wp_opt2
theorem wp_irI {x y : Int} {Q : Int → IS → Prop} : wp (irI x y) Q W = ((y ≠ 0 ∧ -2147483648 < x ∧ x < 2147483648 ∧ R32 y) ∧ Q (x - x.tdiv y * y) W) := wp_opt2
theorem wp_iSl {i : Nat} {Q : Int → IS → Prop} : wp (iSl i) Q W = (i < 19 ∧ Q ((txt i).length : Int) W) := wp_opt2
theorem wp_iSc {i : Nat} {k : Int} {Q : Int → IS → Prop} : wp (iSc i k) Q W = ((i < 19 ∧ 0 ≤ k ∧ k < (txt i).length) ∧ Q (((txt i).getD k.toNat 0 : Nat) : Int) W) := wp_opt2
theorem wp_iSi {i : Nat} {c : Int} {Q : Int → IS → Prop} : wp (iSi i c) Q W = ((i < 19 ∧ 0 ≤ c ∧ c < 256) ∧ Q (idxZ (txt i) c.toNat) W) := wp_opt2
theorem wpA {k n : Nat} (h : isA k = true ∧ isZ k = false ∧ lenM k = n) {i : Int} {Q : Int → IS → Prop} : wp (iaI k i) Q W = ((0 ≤ i ∧ i < n) ∧ Q (W.2 k i) W) := by
  rw [wp_if (x := iaI k i) rfl, h.1, h.2.1, h.2.2]
  simp only [true_and]
theorem wpZ {k n : Nat} (h : isA k = true ∧ isZ k = true ∧ lenM k = n) {i : Int} {Q : Int → IS → Prop} : wp (iaZ k i) Q W = ((0 ≤ i ∧ i < n) ∧ Q (W.2 k i) W) := by
  rw [wp_if (x := iaZ k i) rfl, h.1, h.2.1, h.2.2]
  simp only [true_and]
theorem wpS {k n : Nat} (h : isA k = true ∧ isZ k = false ∧ lenM k = n) {i x : Int} {Q : Unit → IS → Prop} : wp (isI k i x) Q W = ((0 ≤ i ∧ i < n) ∧ Q () (iu2 W k i x)) := by
  rw [wp_if (x := isI k i x) rfl, h.1, h.2.1, h.2.2]
  simp only [true_and]
theorem wpY {k n : Nat} (h : isA k = true ∧ isZ k = true ∧ lenM k = n) {i x : Int} {Q : Unit → IS → Prop} : wp (isZ' k i x) Q W = (((0 ≤ i ∧ i < n) ∧ (x = 0 ∨ x = 1)) ∧ Q () (iu2 W k i x)) := by
  rw [wp_if (x := isZ' k i x) rfl, h.1, h.2.1, h.2.2]
  simp only [true_and]
theorem iu1_1 {k : Nat} {x : Int} {j : Nat} : (iu1 W k x).1 j = if j = k then x else W.1 j := rfl
theorem iu1_2 {k : Nat} {x : Int} : (iu1 W k x).2 = W.2 := rfl
theorem iu2_1 {k : Nat} {i x : Int} : (iu2 W k i x).1 = W.1 := rfl
theorem iu2_2 {k : Nat} {i x : Int} {j : Nat} {l : Int} : (iu2 W k i x).2 j l = if j = k ∧ l = i then x else W.2 j l := rfl
theorem wA0 {i : Int} {Q : Int → IS → Prop} : wp (iaI 0 i) Q W = ((0 ≤ i ∧ i < 120) ∧ Q (W.2 0 i) W) := wpA (n := 120) (by decide)
theorem wS0 {i x : Int} {Q : Unit → IS → Prop} : wp (isI 0 i x) Q W = ((0 ≤ i ∧ i < 120) ∧ Q () (iu2 W 0 i x)) := wpS (n := 120) (by decide)
theorem wA6 {i : Int} {Q : Int → IS → Prop} : wp (iaI 6 i) Q W = ((0 ≤ i ∧ i < 8) ∧ Q (W.2 6 i) W) := wpA (n := 8) (by decide)
theorem wS6 {i x : Int} {Q : Unit → IS → Prop} : wp (isI 6 i x) Q W = ((0 ≤ i ∧ i < 8) ∧ Q () (iu2 W 6 i x)) := wpS (n := 8) (by decide)
theorem wA7 {i : Int} {Q : Int → IS → Prop} : wp (iaI 7 i) Q W = ((0 ≤ i ∧ i < 568) ∧ Q (W.2 7 i) W) := wpA (n := 568) (by decide)
theorem wS7 {i x : Int} {Q : Unit → IS → Prop} : wp (isI 7 i x) Q W = ((0 ≤ i ∧ i < 568) ∧ Q () (iu2 W 7 i x)) := wpS (n := 568) (by decide)
theorem wA8 {i : Int} {Q : Int → IS → Prop} : wp (iaI 8 i) Q W = ((0 ≤ i ∧ i < 568) ∧ Q (W.2 8 i) W) := wpA (n := 568) (by decide)
theorem wS8 {i x : Int} {Q : Unit → IS → Prop} : wp (isI 8 i x) Q W = ((0 ≤ i ∧ i < 568) ∧ Q () (iu2 W 8 i x)) := wpS (n := 568) (by decide)
theorem wA9 {i : Int} {Q : Int → IS → Prop} : wp (iaI 9 i) Q W = ((0 ≤ i ∧ i < 7384) ∧ Q (W.2 9 i) W) := wpA (n := 7384) (by decide)
theorem wS9 {i x : Int} {Q : Unit → IS → Prop} : wp (isI 9 i x) Q W = ((0 ≤ i ∧ i < 7384) ∧ Q () (iu2 W 9 i x)) := wpS (n := 7384) (by decide)
theorem wA10 {i : Int} {Q : Int → IS → Prop} : wp (iaI 10 i) Q W = ((0 ≤ i ∧ i < 7384) ∧ Q (W.2 10 i) W) := wpA (n := 7384) (by decide)
theorem wS10 {i x : Int} {Q : Unit → IS → Prop} : wp (isI 10 i x) Q W = ((0 ≤ i ∧ i < 7384) ∧ Q () (iu2 W 10 i x)) := wpS (n := 7384) (by decide)
theorem wA11 {i : Int} {Q : Int → IS → Prop} : wp (iaI 11 i) Q W = ((0 ≤ i ∧ i < 8) ∧ Q (W.2 11 i) W) := wpA (n := 8) (by decide)
theorem wS11 {i x : Int} {Q : Unit → IS → Prop} : wp (isI 11 i x) Q W = ((0 ≤ i ∧ i < 8) ∧ Q () (iu2 W 11 i x)) := wpS (n := 8) (by decide)
theorem wA12 {i : Int} {Q : Int → IS → Prop} : wp (iaI 12 i) Q W = ((0 ≤ i ∧ i < 3200) ∧ Q (W.2 12 i) W) := wpA (n := 3200) (by decide)
theorem wS12 {i x : Int} {Q : Unit → IS → Prop} : wp (isI 12 i x) Q W = ((0 ≤ i ∧ i < 3200) ∧ Q () (iu2 W 12 i x)) := wpS (n := 3200) (by decide)
theorem wA13 {i : Int} {Q : Int → IS → Prop} : wp (iaI 13 i) Q W = ((0 ≤ i ∧ i < 3200) ∧ Q (W.2 13 i) W) := wpA (n := 3200) (by decide)
theorem wS13 {i x : Int} {Q : Unit → IS → Prop} : wp (isI 13 i x) Q W = ((0 ≤ i ∧ i < 3200) ∧ Q () (iu2 W 13 i x)) := wpS (n := 3200) (by decide)
theorem wA14 {i : Int} {Q : Int → IS → Prop} : wp (iaI 14 i) Q W = ((0 ≤ i ∧ i < 3200) ∧ Q (W.2 14 i) W) := wpA (n := 3200) (by decide)
theorem wS14 {i x : Int} {Q : Unit → IS → Prop} : wp (isI 14 i x) Q W = ((0 ≤ i ∧ i < 3200) ∧ Q () (iu2 W 14 i x)) := wpS (n := 3200) (by decide)
theorem wA16 {i : Int} {Q : Int → IS → Prop} : wp (iaI 16 i) Q W = ((0 ≤ i ∧ i < 16) ∧ Q (W.2 16 i) W) := wpA (n := 16) (by decide)
theorem wS16 {i x : Int} {Q : Unit → IS → Prop} : wp (isI 16 i x) Q W = ((0 ≤ i ∧ i < 16) ∧ Q () (iu2 W 16 i x)) := wpS (n := 16) (by decide)
theorem wA17 {i : Int} {Q : Int → IS → Prop} : wp (iaI 17 i) Q W = ((0 ≤ i ∧ i < 16) ∧ Q (W.2 17 i) W) := wpA (n := 16) (by decide)
theorem wS17 {i x : Int} {Q : Unit → IS → Prop} : wp (isI 17 i x) Q W = ((0 ≤ i ∧ i < 16) ∧ Q () (iu2 W 17 i x)) := wpS (n := 16) (by decide)
theorem wA18 {i : Int} {Q : Int → IS → Prop} : wp (iaI 18 i) Q W = ((0 ≤ i ∧ i < 6400) ∧ Q (W.2 18 i) W) := wpA (n := 6400) (by decide)
theorem wS18 {i x : Int} {Q : Unit → IS → Prop} : wp (isI 18 i x) Q W = ((0 ≤ i ∧ i < 6400) ∧ Q () (iu2 W 18 i x)) := wpS (n := 6400) (by decide)
theorem wA26 {i : Int} {Q : Int → IS → Prop} : wp (iaI 26 i) Q W = ((0 ≤ i ∧ i < 120) ∧ Q (W.2 26 i) W) := wpA (n := 120) (by decide)
theorem wS26 {i x : Int} {Q : Unit → IS → Prop} : wp (isI 26 i x) Q W = ((0 ≤ i ∧ i < 120) ∧ Q () (iu2 W 26 i x)) := wpS (n := 120) (by decide)
theorem wA27 {i : Int} {Q : Int → IS → Prop} : wp (iaI 27 i) Q W = ((0 ≤ i ∧ i < 120) ∧ Q (W.2 27 i) W) := wpA (n := 120) (by decide)
theorem wS27 {i x : Int} {Q : Unit → IS → Prop} : wp (isI 27 i x) Q W = ((0 ≤ i ∧ i < 120) ∧ Q () (iu2 W 27 i x)) := wpS (n := 120) (by decide)
theorem wZ28 {i : Int} {Q : Int → IS → Prop} : wp (iaZ 28 i) Q W = ((0 ≤ i ∧ i < 120) ∧ Q (W.2 28 i) W) := wpZ (n := 120) (by decide)
theorem wY28 {i x : Int} {Q : Unit → IS → Prop} : wp (isZ' 28 i x) Q W = (((0 ≤ i ∧ i < 120) ∧ (x = 0 ∨ x = 1)) ∧ Q () (iu2 W 28 i x)) := wpY (n := 120) (by decide)
theorem wA29 {i : Int} {Q : Int → IS → Prop} : wp (iaI 29 i) Q W = ((0 ≤ i ∧ i < 120) ∧ Q (W.2 29 i) W) := wpA (n := 120) (by decide)
theorem wS29 {i x : Int} {Q : Unit → IS → Prop} : wp (isI 29 i x) Q W = ((0 ≤ i ∧ i < 120) ∧ Q () (iu2 W 29 i x)) := wpS (n := 120) (by decide)
theorem wA30 {i : Int} {Q : Int → IS → Prop} : wp (iaI 30 i) Q W = ((0 ≤ i ∧ i < 120) ∧ Q (W.2 30 i) W) := wpA (n := 120) (by decide)
theorem wS30 {i x : Int} {Q : Unit → IS → Prop} : wp (isI 30 i x) Q W = ((0 ≤ i ∧ i < 120) ∧ Q () (iu2 W 30 i x)) := wpS (n := 120) (by decide)
theorem wA31 {i : Int} {Q : Int → IS → Prop} : wp (iaI 31 i) Q W = ((0 ≤ i ∧ i < 121) ∧ Q (W.2 31 i) W) := wpA (n := 121) (by decide)
theorem wS31 {i x : Int} {Q : Unit → IS → Prop} : wp (isI 31 i x) Q W = ((0 ≤ i ∧ i < 121) ∧ Q () (iu2 W 31 i x)) := wpS (n := 121) (by decide)
theorem wA32 {i : Int} {Q : Int → IS → Prop} : wp (iaI 32 i) Q W = ((0 ≤ i ∧ i < 120) ∧ Q (W.2 32 i) W) := wpA (n := 120) (by decide)
theorem wS32 {i x : Int} {Q : Unit → IS → Prop} : wp (isI 32 i x) Q W = ((0 ≤ i ∧ i < 120) ∧ Q () (iu2 W 32 i x)) := wpS (n := 120) (by decide)
theorem wA33 {i : Int} {Q : Int → IS → Prop} : wp (iaI 33 i) Q W = ((0 ≤ i ∧ i < 120) ∧ Q (W.2 33 i) W) := wpA (n := 120) (by decide)
theorem wS33 {i x : Int} {Q : Unit → IS → Prop} : wp (isI 33 i x) Q W = ((0 ≤ i ∧ i < 120) ∧ Q () (iu2 W 33 i x)) := wpS (n := 120) (by decide)
theorem wA34 {i : Int} {Q : Int → IS → Prop} : wp (iaI 34 i) Q W = ((0 ≤ i ∧ i < 120) ∧ Q (W.2 34 i) W) := wpA (n := 120) (by decide)
theorem wS34 {i x : Int} {Q : Unit → IS → Prop} : wp (isI 34 i x) Q W = ((0 ≤ i ∧ i < 120) ∧ Q () (iu2 W 34 i x)) := wpS (n := 120) (by decide)
theorem wA35 {i : Int} {Q : Int → IS → Prop} : wp (iaI 35 i) Q W = ((0 ≤ i ∧ i < 120) ∧ Q (W.2 35 i) W) := wpA (n := 120) (by decide)
theorem wS35 {i x : Int} {Q : Unit → IS → Prop} : wp (isI 35 i x) Q W = ((0 ≤ i ∧ i < 120) ∧ Q () (iu2 W 35 i x)) := wpS (n := 120) (by decide)
theorem wA36 {i : Int} {Q : Int → IS → Prop} : wp (iaI 36 i) Q W = ((0 ≤ i ∧ i < 16384) ∧ Q (W.2 36 i) W) := wpA (n := 16384) (by decide)
theorem wS36 {i x : Int} {Q : Unit → IS → Prop} : wp (isI 36 i x) Q W = ((0 ≤ i ∧ i < 16384) ∧ Q () (iu2 W 36 i x)) := wpS (n := 16384) (by decide)
theorem wA38 {i : Int} {Q : Int → IS → Prop} : wp (iaI 38 i) Q W = ((0 ≤ i ∧ i < 16384) ∧ Q (W.2 38 i) W) := wpA (n := 16384) (by decide)
theorem wS38 {i x : Int} {Q : Unit → IS → Prop} : wp (isI 38 i x) Q W = ((0 ≤ i ∧ i < 16384) ∧ Q () (iu2 W 38 i x)) := wpS (n := 16384) (by decide)
theorem wA39 {i : Int} {Q : Int → IS → Prop} : wp (iaI 39 i) Q W = ((0 ≤ i ∧ i < 400) ∧ Q (W.2 39 i) W) := wpA (n := 400) (by decide)
theorem wS39 {i x : Int} {Q : Unit → IS → Prop} : wp (isI 39 i x) Q W = ((0 ≤ i ∧ i < 400) ∧ Q () (iu2 W 39 i x)) := wpS (n := 400) (by decide)
theorem wA40 {i : Int} {Q : Int → IS → Prop} : wp (iaI 40 i) Q W = ((0 ≤ i ∧ i < 400) ∧ Q (W.2 40 i) W) := wpA (n := 400) (by decide)
theorem wS40 {i x : Int} {Q : Unit → IS → Prop} : wp (isI 40 i x) Q W = ((0 ≤ i ∧ i < 400) ∧ Q () (iu2 W 40 i x)) := wpS (n := 400) (by decide)
theorem wZ41 {i : Int} {Q : Int → IS → Prop} : wp (iaZ 41 i) Q W = ((0 ≤ i ∧ i < 400) ∧ Q (W.2 41 i) W) := wpZ (n := 400) (by decide)
theorem wY41 {i x : Int} {Q : Unit → IS → Prop} : wp (isZ' 41 i x) Q W = (((0 ≤ i ∧ i < 400) ∧ (x = 0 ∨ x = 1)) ∧ Q () (iu2 W 41 i x)) := wpY (n := 400) (by decide)
theorem wA45 {i : Int} {Q : Int → IS → Prop} : wp (iaI 45 i) Q W = ((0 ≤ i ∧ i < 120) ∧ Q (W.2 45 i) W) := wpA (n := 120) (by decide)
theorem wS45 {i x : Int} {Q : Unit → IS → Prop} : wp (isI 45 i x) Q W = ((0 ≤ i ∧ i < 120) ∧ Q () (iu2 W 45 i x)) := wpS (n := 120) (by decide)
theorem wA46 {i : Int} {Q : Int → IS → Prop} : wp (iaI 46 i) Q W = ((0 ≤ i ∧ i < 120) ∧ Q (W.2 46 i) W) := wpA (n := 120) (by decide)
theorem wS46 {i x : Int} {Q : Unit → IS → Prop} : wp (isI 46 i x) Q W = ((0 ≤ i ∧ i < 120) ∧ Q () (iu2 W 46 i x)) := wpS (n := 120) (by decide)
theorem wZ47 {i : Int} {Q : Int → IS → Prop} : wp (iaZ 47 i) Q W = ((0 ≤ i ∧ i < 400) ∧ Q (W.2 47 i) W) := wpZ (n := 400) (by decide)
theorem wY47 {i x : Int} {Q : Unit → IS → Prop} : wp (isZ' 47 i x) Q W = (((0 ≤ i ∧ i < 400) ∧ (x = 0 ∨ x = 1)) ∧ Q () (iu2 W 47 i x)) := wpY (n := 400) (by decide)
theorem wZ48 {i : Int} {Q : Int → IS → Prop} : wp (iaZ 48 i) Q W = ((0 ≤ i ∧ i < 400) ∧ Q (W.2 48 i) W) := wpZ (n := 400) (by decide)
theorem wY48 {i x : Int} {Q : Unit → IS → Prop} : wp (isZ' 48 i x) Q W = (((0 ≤ i ∧ i < 400) ∧ (x = 0 ∨ x = 1)) ∧ Q () (iu2 W 48 i x)) := wpY (n := 400) (by decide)
end WPM
section WPJ
variable {J : JS} {α : Type}
theorem jp_ret {a : α} {Q : α → JS → Prop} : wp (jret a) Q J = Q a J := rfl
theorem jp_opt2 {c : Prop} {d : Decidable c} {x : JM α} {Q : α → JS → Prop} : wp (if c then x else nof) Q J = (c ∧ wp x Q J) := by
  by_cases h : c
  · rw [if_pos h]; exact propext ⟨fun q => ⟨h, q⟩, fun q => q.2⟩
  · rw [if_neg h]; exact propext ⟨fun q => q.elim, fun q => absurd q.1 h⟩
theorem jp_nz {x : Int} {Q : Int → JS → Prop} : wp (jnz x) Q J = ((x = 0 ∨ x = 1) ∧ Q x J) := jp_opt2
theorem jp_dI {x y : Int} {Q : Int → JS → Prop} : wp (jdI x y) Q J = ((y ≠ 0 ∧ -2147483648 < x ∧ x < 2147483648 ∧ R32 y) ∧ Q (x.tdiv y) J) := jp_opt2
theorem jp_rI {x y : Int} {Q : Int → JS → Prop} : wp (jrI x y) Q J = ((y ≠ 0 ∧ -2147483648 < x ∧ x < 2147483648 ∧ R32 y) ∧ Q (x - x.tdiv y * y) J) := jp_opt2
theorem jp_g9 {x : Int} {Q : Int → JS → Prop} : wp (jg9 x) Q J = ((R32 x ∧ x ≠ -9) ∧ Q x J) := jp_opt2
theorem jp_E {q : Nat × Nat} {Q : Unit → JS → Prop} : wp (jE q) Q J = (kj J q = true ∧ Q () J) := wp_if rfl
theorem jp_N {t i : Nat} {Q : Int → JS → Prop} : wp (jN t i) Q J = (kj J (20 + t, i) = true ∧ Q (jl t i : Int) J) := wp_if rfl
theorem jp_Bk {k : Int} {Q : Option Nat → JS → Prop} : wp (jBk k) Q J = ((0 ≤ k ∧ k < 8) ∧ Q (jb J k.toNat) J) := wp_if rfl
theorem jp_Ck {k : Int} {Q : Option Nat → JS → Prop} : wp (jCk k) Q J = ((0 ≤ k ∧ k < 16) ∧ Q (jd J k.toNat) J) := wp_if rfl
theorem jp_W {b : Nat} {Q : Nat → JS → Prop} : wp (jW b) Q J = (b < jB J ∧ Q (jw J b) J) := wp_if rfl
theorem jp_R {b : Nat} {Q : Nat → JS → Prop} : wp (jR b) Q J = (b < jC J ∧ Q (jr J b) J) := wp_if rfl
theorem jp_Tx {b : Nat} {Q : Nat → JS → Prop} : wp (jTx b) Q J = (b < jC J ∧ Q (jn J b) J) := wp_if rfl
theorem jp_Sl {i : Nat} {Q : Int → JS → Prop} : wp (jSl i) Q J = (i < jT J ∧ Q ((jt J i).length : Int) J) := wp_if rfl
theorem jp_Sc {i : Nat} {k : Int} {Q : Int → JS → Prop} : wp (jSc i k) Q J = ((i < jT J ∧ 0 ≤ k ∧ k < (jt J i).length ∧ (jt J i).length < 2147483648) ∧ Q (((jt J i).getD k.toNat 0 : Nat) : Int) J) := wp_if rfl
theorem jp_Si {i : Nat} {c : Int} {Q : Int → JS → Prop} : wp (jSi i c) Q J = ((i < jT J ∧ (jt J i).length < 1000 ∧ 0 ≤ c ∧ c < 256) ∧ Q (idxZ (jt J i) c.toNat) J) := wp_if rfl
theorem jp_Sq {i j : Nat} {Q : Int → JS → Prop} : wp (jSq i j) Q J = ((i < jT J ∧ j < jT J ∧ (jt J i).length < 19999 ∧ (jt J j).length < 19999) ∧ Q (if jt J i = jt J j then 1 else 0) J) := wp_if rfl
theorem jp_Xl {Q : Int → JS → Prop} : wp jXl Q J = Q ((jx J).length : Int) J := rfl
theorem jp_X0 {Q : Unit → JS → Prop} : wp jX0 Q J = Q () (jux J []) := rfl
theorem jp_Xc {c : Int} {Q : Unit → JS → Prop} : wp (jXc c) Q J = (((0 ≤ c ∧ c < 256) ∧ (jx J).length + 1 ≤ 16384) ∧ Q () (jux J (jx J ++ [c.toNat]))) := wp_if rfl
theorem jp_Xs {i : Nat} {Q : Unit → JS → Prop} : wp (jXs i) Q J = ((i < jT J ∧ (jx J).length + (jt J i).length ≤ 16384) ∧ Q () (jux J (jx J ++ jt J i))) := wp_if rfl
theorem jp_Xi {v : Int} {Q : Unit → JS → Prop} : wp (jXi v) Q J = (((0 ≤ v ∧ v < 100) ∧ (jx J).length + 2 ≤ 16384) ∧ Q () (jux J (jx J ++ dgs v.toNat))) := wp_if rfl
theorem jp_Tos {L : Nat} {Q : Nat → JS → Prop} : wp (jTos L) Q J = ((jx J).length ≤ L ∧ Q (jT J) (juT J)) := wp_if rfl
theorem jp_NB {s : Nat} {Q : Nat → JS → Prop} : wp (jNB s) Q J = ((jB J ≤ 24 ∧ s < jT J) ∧ Q (jB J) (juB J s)) := wp_if rfl
theorem jp_NC {n : Int} {b s : Nat} {Q : Nat → JS → Prop} : wp (jNC n b s) Q J = ((jB J ≤ 24 ∧ b < jB J ∧ s < jT J) ∧ Q (jC J) (juC J n b s)) := wp_if rfl
theorem jp_G {t i : Nat} {Q : Int → JS → Prop} : wp (jG t i) Q J = (kj J (kyS t i) = true ∧ Q (js J t i) J) := wp_if rfl
theorem jp_P {t i : Nat} {v : Int} {Q : Unit → JS → Prop} : wp (jP t i v) Q J = (kj J (kyS t i) = true ∧ Q () (ju1 J t i v)) := wp_if rfl
theorem kj_1 {i : Nat} : (kj J (1, i) = true) = (i ≤ 12 ∨ (100 ≤ i ∧ i < 100 + 4 * jB J) ∨ (200 ≤ i ∧ i < 200 + 5 * jC J)) := propext rx_iff
theorem kj_2 {i : Nat} : (kj J (2, i) = true) = (i ≤ jB J) := propext decide_eq_true_iff
theorem kj_3 {i : Nat} : (kj J (3, i) = true) = (i < jB J) := propext decide_eq_true_iff
theorem kj_4 {i : Nat} : (kj J (4, i) = true) = (i < jC J) := propext decide_eq_true_iff
theorem jpSb {t i : Nat} {k v : Int} {Q : Unit → JS → Prop} : wp (jSb t i k v) Q J = ((kj J (20 + t, i) = true ∧ by2 t = true ∧ 0 ≤ k ∧ k < jl t i) ∧ Q () (ju2 J t i k (iB8 v))) := wp_if rfl
theorem jpA1 {i : Nat} {k : Int} {Q : Int → JS → Prop} : wp (jA 1 i k) Q J = ((kj J (1, i) = true ∧ 0 ≤ k ∧ k < rl i) ∧ Q (ja J 1 i k) J) := by
  rw [wp_if (x := jA 1 i k) rfl]
  refine propext ⟨fun q => ⟨⟨q.1.1, q.1.2.2⟩, q.2⟩, fun q => ⟨⟨q.1.1, rfl, q.1.2⟩, q.2⟩⟩
theorem jpS1 {i : Nat} {k v : Int} {Q : Unit → JS → Prop} : wp (jS 1 i k v) Q J = ((kj J (1, i) = true ∧ 0 ≤ k ∧ k < rl i) ∧ Q () (ju2 J 1 i k v)) := by
  rw [wp_if (x := jS 1 i k v) rfl]
  refine propext ⟨fun q => ⟨⟨q.1.1, q.1.2.2⟩, q.2⟩, fun q => ⟨⟨q.1.1, rfl, q.1.2⟩, q.2⟩⟩
theorem jpN1 {i : Nat} {Q : Int → JS → Prop} : wp (jN 1 i) Q J = (kj J (1, i) = true ∧ Q (rl i : Int) J) := wp_if rfl
theorem jp_con {r : Option Nat} {A : JM α} {B : Nat → JM α} {Q : α → JS → Prop} : wp (jcon r A B) Q J = ((r = none → wp A Q J) ∧ ∀ i, r = some i → wp (B i) Q J) := by
  cases r with
  | none => exact propext ⟨fun q => ⟨(fun _ => q), (fun i h => by cases h)⟩, fun q => q.1 rfl⟩
  | some i => exact propext ⟨fun q => ⟨(fun h => by cases h), (fun j h => by cases h; exact q)⟩, fun q => q.2 i rfl⟩
theorem ju1_s {t i : Nat} {v : Int} {a b : Nat} : js (ju1 J t i v) a b = if a = t ∧ b = i then v else js J a b := rfl
theorem ju1_a {t i : Nat} {v : Int} : ja (ju1 J t i v) = ja J := rfl
theorem ju1_r {t i : Nat} {v : Int} : (ju1 J t i v).2.2 = J.2.2 := rfl
theorem ju2_s {t i : Nat} {k v : Int} : js (ju2 J t i k v) = js J := rfl
theorem ju2_a {t i : Nat} {k v : Int} {a b : Nat} {l : Int} : ja (ju2 J t i k v) a b l = if a = t ∧ b = i ∧ l = k then v else ja J a b l := rfl
theorem ju2_r {t i : Nat} {k v : Int} : (ju2 J t i k v).2.2 = J.2.2 := rfl
theorem juA_s {t i : Nat} {F : Int → Int} : js (juA J t i F) = js J := rfl
theorem juA_a {t i : Nat} {F : Int → Int} {a b : Nat} {l : Int} : ja (juA J t i F) a b l = if a = t ∧ b = i then F l else ja J a b l := rfl
theorem juA_r {t i : Nat} {F : Int → Int} : (juA J t i F).2.2 = J.2.2 := rfl
theorem jux_s {l : List Nat} : js (jux J l) = js J := rfl
theorem jux_a {l : List Nat} : ja (jux J l) = ja J := rfl
theorem jux_x {l : List Nat} : jx (jux J l) = l := rfl
theorem jux_t {l : List Nat} : jt (jux J l) = jt J := rfl
theorem ju1_jB {t i : Nat} {v : Int} : jB (ju1 J t i v) = jB J := rfl
theorem ju2_jB {t i : Nat} {k v : Int} : jB (ju2 J t i k v) = jB J := rfl
theorem juA_jB {t i : Nat} {F : Int → Int} : jB (juA J t i F) = jB J := rfl
theorem ju1_jC {t i : Nat} {v : Int} : jC (ju1 J t i v) = jC J := rfl
theorem ju2_jC {t i : Nat} {k v : Int} : jC (ju2 J t i k v) = jC J := rfl
theorem juA_jC {t i : Nat} {F : Int → Int} : jC (juA J t i F) = jC J := rfl
theorem ju1_jT {t i : Nat} {v : Int} : jT (ju1 J t i v) = jT J := rfl
theorem ju2_jT {t i : Nat} {k v : Int} : jT (ju2 J t i k v) = jT J := rfl
theorem juA_jT {t i : Nat} {F : Int → Int} : jT (juA J t i F) = jT J := rfl
theorem ju1_jb {t i : Nat} {v : Int} : jb (ju1 J t i v) = jb J := rfl
theorem ju2_jb {t i : Nat} {k v : Int} : jb (ju2 J t i k v) = jb J := rfl
theorem juA_jb {t i : Nat} {F : Int → Int} : jb (juA J t i F) = jb J := rfl
theorem ju1_jd {t i : Nat} {v : Int} : jd (ju1 J t i v) = jd J := rfl
theorem ju2_jd {t i : Nat} {k v : Int} : jd (ju2 J t i k v) = jd J := rfl
theorem juA_jd {t i : Nat} {F : Int → Int} : jd (juA J t i F) = jd J := rfl
theorem ju1_jt {t i : Nat} {v : Int} : jt (ju1 J t i v) = jt J := rfl
theorem ju2_jt {t i : Nat} {k v : Int} : jt (ju2 J t i k v) = jt J := rfl
theorem juA_jt {t i : Nat} {F : Int → Int} : jt (juA J t i F) = jt J := rfl
theorem ju1_jx {t i : Nat} {v : Int} : jx (ju1 J t i v) = jx J := rfl
theorem ju2_jx {t i : Nat} {k v : Int} : jx (ju2 J t i k v) = jx J := rfl
theorem juA_jx {t i : Nat} {F : Int → Int} : jx (juA J t i F) = jx J := rfl
theorem ju1_jw {t i : Nat} {v : Int} : jw (ju1 J t i v) = jw J := rfl
theorem ju2_jw {t i : Nat} {k v : Int} : jw (ju2 J t i k v) = jw J := rfl
theorem juA_jw {t i : Nat} {F : Int → Int} : jw (juA J t i F) = jw J := rfl
theorem ju1_jr {t i : Nat} {v : Int} : jr (ju1 J t i v) = jr J := rfl
theorem ju2_jr {t i : Nat} {k v : Int} : jr (ju2 J t i k v) = jr J := rfl
theorem juA_jr {t i : Nat} {F : Int → Int} : jr (juA J t i F) = jr J := rfl
theorem ju1_jn {t i : Nat} {v : Int} : jn (ju1 J t i v) = jn J := rfl
theorem ju2_jn {t i : Nat} {k v : Int} : jn (ju2 J t i k v) = jn J := rfl
theorem juA_jn {t i : Nat} {F : Int → Int} : jn (juA J t i F) = jn J := rfl
theorem jux_jB {l : List Nat} : jB (jux J l) = jB J := rfl
theorem jux_jC {l : List Nat} : jC (jux J l) = jC J := rfl
theorem jux_jT {l : List Nat} : jT (jux J l) = jT J := rfl
theorem jux_jb {l : List Nat} : jb (jux J l) = jb J := rfl
theorem jux_jd {l : List Nat} : jd (jux J l) = jd J := rfl
theorem jux_jw {l : List Nat} : jw (jux J l) = jw J := rfl
theorem jux_jr {l : List Nat} : jr (jux J l) = jr J := rfl
theorem jux_jn {l : List Nat} : jn (jux J l) = jn J := rfl
theorem jG2 {Q : Int → JS → Prop} : wp (jG 2 0) Q J = Q (js J 2 0) J := rfl
theorem jP2 {v : Int} {Q : Unit → JS → Prop} : wp (jP 2 0 v) Q J = Q () (ju1 J 2 0 v) := rfl
theorem jG3 {Q : Int → JS → Prop} : wp (jG 3 0) Q J = Q (js J 3 0) J := rfl
theorem jP3 {v : Int} {Q : Unit → JS → Prop} : wp (jP 3 0 v) Q J = Q () (ju1 J 3 0 v) := rfl
theorem jG4 {Q : Int → JS → Prop} : wp (jG 4 0) Q J = Q (js J 4 0) J := rfl
theorem jP4 {v : Int} {Q : Unit → JS → Prop} : wp (jP 4 0 v) Q J = Q () (ju1 J 4 0 v) := rfl
theorem jG5 {Q : Int → JS → Prop} : wp (jG 5 0) Q J = Q (js J 5 0) J := rfl
theorem jP5 {v : Int} {Q : Unit → JS → Prop} : wp (jP 5 0 v) Q J = Q () (ju1 J 5 0 v) := rfl
theorem jG8 {Q : Int → JS → Prop} : wp (jG 8 0) Q J = Q (js J 8 0) J := rfl
theorem jP8 {v : Int} {Q : Unit → JS → Prop} : wp (jP 8 0 v) Q J = Q () (ju1 J 8 0 v) := rfl
theorem jG9 {Q : Int → JS → Prop} : wp (jG 9 0) Q J = Q (js J 9 0) J := rfl
theorem jP9 {v : Int} {Q : Unit → JS → Prop} : wp (jP 9 0 v) Q J = Q () (ju1 J 9 0 v) := rfl
theorem jG10 {Q : Int → JS → Prop} : wp (jG 10 0) Q J = Q (js J 10 0) J := rfl
theorem jP10 {v : Int} {Q : Unit → JS → Prop} : wp (jP 10 0 v) Q J = Q () (ju1 J 10 0 v) := rfl
theorem jG11 {Q : Int → JS → Prop} : wp (jG 11 0) Q J = Q (js J 11 0) J := rfl
theorem jP11 {v : Int} {Q : Unit → JS → Prop} : wp (jP 11 0 v) Q J = Q () (ju1 J 11 0 v) := rfl
theorem jG1 {i : Nat} {Q : Int → JS → Prop} : wp (jG 1 i) Q J = (kj J (1, i) = true ∧ Q (js J 1 i) J) := wp_if rfl
theorem jP1 {i : Nat} {v : Int} {Q : Unit → JS → Prop} : wp (jP 1 i v) Q J = (kj J (1, i) = true ∧ Q () (ju1 J 1 i v)) := wp_if rfl
theorem jG6 {i : Nat} {Q : Int → JS → Prop} : wp (jG 6 i) Q J = (kj J (2, i) = true ∧ Q (js J 6 i) J) := wp_if rfl
theorem jP6 {i : Nat} {v : Int} {Q : Unit → JS → Prop} : wp (jP 6 i v) Q J = (kj J (2, i) = true ∧ Q () (ju1 J 6 i v)) := wp_if rfl
theorem jG7 {i : Nat} {Q : Int → JS → Prop} : wp (jG 7 i) Q J = (kj J (2, i) = true ∧ Q (js J 7 i) J) := wp_if rfl
theorem jP7 {i : Nat} {v : Int} {Q : Unit → JS → Prop} : wp (jP 7 i v) Q J = (kj J (2, i) = true ∧ Q () (ju1 J 7 i v)) := wp_if rfl
theorem jG12 {i : Nat} {Q : Int → JS → Prop} : wp (jG 12 i) Q J = (kj J (4, i) = true ∧ Q (js J 12 i) J) := wp_if rfl
theorem jP12 {i : Nat} {v : Int} {Q : Unit → JS → Prop} : wp (jP 12 i v) Q J = (kj J (4, i) = true ∧ Q () (ju1 J 12 i v)) := wp_if rfl
theorem wj2 {k : Int} {Q : Int → JS → Prop} : wp (jAb 2 0 k) Q J = ((0 ≤ k ∧ k < 120) ∧ Q (ja J 2 0 k) J) := by
  rw [wp_if (x := jAb 2 0 k) rfl]
  exact propext ⟨fun q => ⟨q.1.2.2, q.2⟩, fun q => ⟨⟨rfl, rfl, q.1⟩, q.2⟩⟩
theorem wk2 {k v : Int} {Q : Unit → JS → Prop} : wp (jSb 2 0 k v) Q J = ((0 ≤ k ∧ k < 120) ∧ Q () (ju2 J 2 0 k (iB8 v))) := by
  rw [wp_if (x := jSb 2 0 k v) rfl]
  exact propext ⟨fun q => ⟨q.1.2.2, q.2⟩, fun q => ⟨⟨rfl, rfl, q.1⟩, q.2⟩⟩
theorem wn2 {Q : Int → JS → Prop} : wp (jN 2 0) Q J = Q 120 J := rfl
theorem wj3 {i : Nat} {k : Int} {Q : Int → JS → Prop} : wp (jA 3 i k) Q J = (((kj J (2, i) = true) ∧ 0 ≤ k ∧ k < 71) ∧ Q (ja J 3 i k) J) := by
  rw [wp_if (x := jA 3 i k) rfl]
  exact propext ⟨fun q => ⟨⟨q.1.1, q.1.2.2⟩, q.2⟩, fun q => ⟨⟨q.1.1, rfl, q.1.2⟩, q.2⟩⟩
theorem wk3 {i : Nat} {k v : Int} {Q : Unit → JS → Prop} : wp (jS 3 i k v) Q J = (((kj J (2, i) = true) ∧ 0 ≤ k ∧ k < 71) ∧ Q () (ju2 J 3 i k v)) := by
  rw [wp_if (x := jS 3 i k v) rfl]
  exact propext ⟨fun q => ⟨⟨q.1.1, q.1.2.2⟩, q.2⟩, fun q => ⟨⟨q.1.1, rfl, q.1.2⟩, q.2⟩⟩
theorem wn3 {i : Nat} {Q : Int → JS → Prop} : wp (jN 3 i) Q J = (kj J (2, i) = true ∧ Q 71 J) := wp_if rfl
theorem wj4 {i : Nat} {k : Int} {Q : Int → JS → Prop} : wp (jA 4 i k) Q J = (((kj J (2, i) = true) ∧ 0 ≤ k ∧ k < 71) ∧ Q (ja J 4 i k) J) := by
  rw [wp_if (x := jA 4 i k) rfl]
  exact propext ⟨fun q => ⟨⟨q.1.1, q.1.2.2⟩, q.2⟩, fun q => ⟨⟨q.1.1, rfl, q.1.2⟩, q.2⟩⟩
theorem wk4 {i : Nat} {k v : Int} {Q : Unit → JS → Prop} : wp (jS 4 i k v) Q J = (((kj J (2, i) = true) ∧ 0 ≤ k ∧ k < 71) ∧ Q () (ju2 J 4 i k v)) := by
  rw [wp_if (x := jS 4 i k v) rfl]
  exact propext ⟨fun q => ⟨⟨q.1.1, q.1.2.2⟩, q.2⟩, fun q => ⟨⟨q.1.1, rfl, q.1.2⟩, q.2⟩⟩
theorem wn4 {i : Nat} {Q : Int → JS → Prop} : wp (jN 4 i) Q J = (kj J (2, i) = true ∧ Q 71 J) := wp_if rfl
theorem wj5 {i : Nat} {k : Int} {Q : Int → JS → Prop} : wp (jAb 5 i k) Q J = (((kj J (2, i) = true) ∧ 0 ≤ k ∧ k < 852) ∧ Q (ja J 5 i k) J) := by
  rw [wp_if (x := jAb 5 i k) rfl]
  exact propext ⟨fun q => ⟨⟨q.1.1, q.1.2.2⟩, q.2⟩, fun q => ⟨⟨q.1.1, rfl, q.1.2⟩, q.2⟩⟩
theorem wk5 {i : Nat} {k v : Int} {Q : Unit → JS → Prop} : wp (jSb 5 i k v) Q J = (((kj J (2, i) = true) ∧ 0 ≤ k ∧ k < 852) ∧ Q () (ju2 J 5 i k (iB8 v))) := by
  rw [wp_if (x := jSb 5 i k v) rfl]
  exact propext ⟨fun q => ⟨⟨q.1.1, q.1.2.2⟩, q.2⟩, fun q => ⟨⟨q.1.1, rfl, q.1.2⟩, q.2⟩⟩
theorem wn5 {i : Nat} {Q : Int → JS → Prop} : wp (jN 5 i) Q J = (kj J (2, i) = true ∧ Q 852 J) := wp_if rfl
theorem wj6 {i : Nat} {k : Int} {Q : Int → JS → Prop} : wp (jAb 6 i k) Q J = (((kj J (2, i) = true) ∧ 0 ≤ k ∧ k < 852) ∧ Q (ja J 6 i k) J) := by
  rw [wp_if (x := jAb 6 i k) rfl]
  exact propext ⟨fun q => ⟨⟨q.1.1, q.1.2.2⟩, q.2⟩, fun q => ⟨⟨q.1.1, rfl, q.1.2⟩, q.2⟩⟩
theorem wk6 {i : Nat} {k v : Int} {Q : Unit → JS → Prop} : wp (jSb 6 i k v) Q J = (((kj J (2, i) = true) ∧ 0 ≤ k ∧ k < 852) ∧ Q () (ju2 J 6 i k (iB8 v))) := by
  rw [wp_if (x := jSb 6 i k v) rfl]
  exact propext ⟨fun q => ⟨⟨q.1.1, q.1.2.2⟩, q.2⟩, fun q => ⟨⟨q.1.1, rfl, q.1.2⟩, q.2⟩⟩
theorem wn6 {i : Nat} {Q : Int → JS → Prop} : wp (jN 6 i) Q J = (kj J (2, i) = true ∧ Q 852 J) := wp_if rfl
theorem wj7 {i : Nat} {k : Int} {Q : Int → JS → Prop} : wp (jA 7 i k) Q J = (((kj J (3, i) = true) ∧ 0 ≤ k ∧ k < 852) ∧ Q (ja J 7 i k) J) := by
  rw [wp_if (x := jA 7 i k) rfl]
  exact propext ⟨fun q => ⟨⟨q.1.1, q.1.2.2⟩, q.2⟩, fun q => ⟨⟨q.1.1, rfl, q.1.2⟩, q.2⟩⟩
theorem wk7 {i : Nat} {k v : Int} {Q : Unit → JS → Prop} : wp (jS 7 i k v) Q J = (((kj J (3, i) = true) ∧ 0 ≤ k ∧ k < 852) ∧ Q () (ju2 J 7 i k v)) := by
  rw [wp_if (x := jS 7 i k v) rfl]
  exact propext ⟨fun q => ⟨⟨q.1.1, q.1.2.2⟩, q.2⟩, fun q => ⟨⟨q.1.1, rfl, q.1.2⟩, q.2⟩⟩
theorem wn7 {i : Nat} {Q : Int → JS → Prop} : wp (jN 7 i) Q J = (kj J (3, i) = true ∧ Q 852 J) := wp_if rfl
theorem wj8 {k : Int} {Q : Int → JS → Prop} : wp (jA 8 0 k) Q J = ((0 ≤ k ∧ k < 400) ∧ Q (ja J 8 0 k) J) := by
  rw [wp_if (x := jA 8 0 k) rfl]
  exact propext ⟨fun q => ⟨q.1.2.2, q.2⟩, fun q => ⟨⟨rfl, rfl, q.1⟩, q.2⟩⟩
theorem wk8 {k v : Int} {Q : Unit → JS → Prop} : wp (jS 8 0 k v) Q J = ((0 ≤ k ∧ k < 400) ∧ Q () (ju2 J 8 0 k v)) := by
  rw [wp_if (x := jS 8 0 k v) rfl]
  exact propext ⟨fun q => ⟨q.1.2.2, q.2⟩, fun q => ⟨⟨rfl, rfl, q.1⟩, q.2⟩⟩
theorem wn8 {Q : Int → JS → Prop} : wp (jN 8 0) Q J = Q 400 J := rfl
theorem wj9 {k : Int} {Q : Int → JS → Prop} : wp (jA 9 0 k) Q J = ((0 ≤ k ∧ k < 400) ∧ Q (ja J 9 0 k) J) := by
  rw [wp_if (x := jA 9 0 k) rfl]
  exact propext ⟨fun q => ⟨q.1.2.2, q.2⟩, fun q => ⟨⟨rfl, rfl, q.1⟩, q.2⟩⟩
theorem wk9 {k v : Int} {Q : Unit → JS → Prop} : wp (jS 9 0 k v) Q J = ((0 ≤ k ∧ k < 400) ∧ Q () (ju2 J 9 0 k v)) := by
  rw [wp_if (x := jS 9 0 k v) rfl]
  exact propext ⟨fun q => ⟨q.1.2.2, q.2⟩, fun q => ⟨⟨rfl, rfl, q.1⟩, q.2⟩⟩
theorem wn9 {Q : Int → JS → Prop} : wp (jN 9 0) Q J = Q 400 J := rfl
theorem wj10 {k : Int} {Q : Int → JS → Prop} : wp (jA 10 0 k) Q J = ((0 ≤ k ∧ k < 400) ∧ Q (ja J 10 0 k) J) := by
  rw [wp_if (x := jA 10 0 k) rfl]
  exact propext ⟨fun q => ⟨q.1.2.2, q.2⟩, fun q => ⟨⟨rfl, rfl, q.1⟩, q.2⟩⟩
theorem wk10 {k v : Int} {Q : Unit → JS → Prop} : wp (jS 10 0 k v) Q J = ((0 ≤ k ∧ k < 400) ∧ Q () (ju2 J 10 0 k v)) := by
  rw [wp_if (x := jS 10 0 k v) rfl]
  exact propext ⟨fun q => ⟨q.1.2.2, q.2⟩, fun q => ⟨⟨rfl, rfl, q.1⟩, q.2⟩⟩
theorem wn10 {Q : Int → JS → Prop} : wp (jN 10 0) Q J = Q 400 J := rfl
end WPJ
