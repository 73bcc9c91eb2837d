/-! ===== a book by its numbers: gatherings, their signs, sizes, what became of each leaf, how many are put in behind it ===== -/
abbrev BK : Type := Int × (Int → Int) × (Int → Int) × (Int → Int → Int) × (Int → Int → Int)
def bn (B : BK) : Int := B.1
def bs (B : BK) : Int → Int := B.2.1
def bz (B : BK) : Int → Int := B.2.2.1
def bf (B : BK) : Int → Int → Int := B.2.2.2.1
def bm (B : BK) : Int → Int → Int := B.2.2.2.2
def BOK (B : BK) : Prop := (0 ≤ bn B ∧ bn B ≤ 71) ∧ (∀ g, 0 ≤ g → g < bn B → (0 ≤ bs B g ∧ bs B g ≤ 70) ∧ (1 ≤ bz B g ∧ bz B g ≤ 12)) ∧ (∀ g i, 0 ≤ g → g < bn B → 1 ≤ i → i ≤ bz B g → (0 ≤ bf B g i ∧ bf B g i ≤ 2) ∧ 0 ≤ bm B g i ∧ bm B g i ≤ 4) ∧ (∀ g h, 0 ≤ g → g < h → h < bn B → bs B g ≠ bs B h)
def cut (B : BK) (g i : Int) : Int := if bf B g i = 1 then 1 else 0
def cnt (B : BK) (g i : Int) : Int := bm B g i + 1 - cut B g i
def gl (B : BK) (g : Int) : Int := smz (cnt B g) (bz B g).toNat 1
def gsu (B : BK) (g : Int) : Int := smz (gl B) g.toNat 0
def ah (B : BK) (g i : Int) : Int := gsu B g + smz (cnt B g) (i - 1).toNat 1
def LC (B : BK) : Int := gsu B (bn B)
def isV (B : BK) (g i : Int) : Prop := (0 ≤ g ∧ g < bn B) ∧ 1 ≤ i ∧ i ≤ bz B g
def isAt (B : BK) (p g i k : Int) : Prop := isV B g i ∧ (cut B g i ≤ k ∧ k ≤ bm B g i) ∧ p = ah B g i + k - cut B g i
def tot (B : BK) : Int := smz (fun g => bz B g + smz (bm B g) (bz B g).toNat 1) (bn B).toNat 0
section BKK
variable {B : BK} {f : Int → Int}
theorem smz_le {g : Int → Int} : ∀ (d : Nat) (a : Int), (∀ i, a ≤ i → i < a + d → f i ≤ g i) → smz f d a ≤ smz g d a
  | 0, _, _ => Int.le_refl _
  | d + 1, a, h => by
    show f a + _ ≤ g a + _
    have h1 := h a (by omega) (by omega)
    have h2 := smz_le d (a + 1) fun i q1 q2 => h i (by omega) (by omega)
    omega
theorem smz_mono {a : Int} {d : Nat} (h : ∀ i, a ≤ i → i < a + d → 0 ≤ f i) : ∀ (m : Nat), m ≤ d → smz f m a ≤ smz f d a := by
  induction d with
  | zero => intro m hm; rw [show m = 0 by omega]; exact Int.le_refl _
  | succ d ih =>
    intro m hm
    have h1 := h (a + d) (by omega) (by omega)
    rw [smz_sn]
    by_cases e : m = d + 1
    · subst e; rw [smz_sn]; omega
    · have := ih (fun i q1 q2 => h i q1 (by omega)) m (by omega)
      omega
theorem smz_nn {a : Int} {d : Nat} (h : ∀ i, a ≤ i → i < a + d → 0 ≤ f i) : 0 ≤ smz f d a := smz_mono h 0 (by omega)
theorem smz_find {a : Int} : ∀ (d : Nat) (p : Int), 0 ≤ p → p < smz f d a → ∃ m : Nat, m < d ∧ smz f m a ≤ p ∧ p < smz f m a + f (a + m) := by
  intro d
  induction d with
  | zero => intro p h0 h1; have : smz f 0 a = 0 := rfl; omega
  | succ d ih =>
    intro p h0 h1
    by_cases h : p < smz f d a
    · obtain ⟨m, h2, h3⟩ := ih p h0 h
      exact ⟨m, by omega, h3⟩
    · rw [smz_sn] at h1
      exact ⟨d, by omega, by omega, h1⟩
theorem cut01 (g i : Int) : 0 ≤ cut B g i ∧ cut B g i ≤ 1 := by unfold cut; split <;> omega
theorem cnt_bd (hB : BOK B) {g i : Int} (h : isV B g i) : 0 ≤ cnt B g i ∧ cnt B g i ≤ 5 := by
  have h1 := hB.2.2.1 g i h.1.1 h.1.2 h.2.1 h.2.2
  have h2 := cut01 (B := B) g i
  unfold cnt
  omega
theorem gl_bd (hB : BOK B) {g : Int} (h0 : 0 ≤ g) (h1 : g < bn B) : 0 ≤ gl B g ∧ gl B g ≤ 60 := by
  have hz := (hB.2.1 g h0 h1).2
  have := smz_bd (f := cnt B g) (K := 5) (bz B g).toNat 1 fun i q1 q2 => cnt_bd hB ⟨⟨h0, h1⟩, q1, by omega⟩
  unfold gl
  omega
theorem gsu_sn {g : Int} (h0 : 0 ≤ g) : gsu B (g + 1) = gsu B g + gl B g := by
  unfold gsu
  rw [show (g + 1).toNat = g.toNat + 1 by omega, smz_sn, show 0 + (g.toNat : Int) = g by omega]
theorem gsu_mono (hB : BOK B) {g h : Int} (h0 : 0 ≤ g) (h1 : g ≤ h) (h2 : h ≤ bn B) : gsu B g ≤ gsu B h := by
  unfold gsu
  exact smz_mono (fun i q1 q2 => (gl_bd hB q1 (by omega)).1) g.toNat (by omega)
theorem gsu_nn (hB : BOK B) {g : Int} (h0 : 0 ≤ g) (h2 : g ≤ bn B) : 0 ≤ gsu B g := gsu_mono hB (g := 0) (by omega) h0 h2
theorem ah_1 {g : Int} : ah B g 1 = gsu B g := by
  unfold ah
  show gsu B g + 0 = _
  omega
theorem ah_sn {g i : Int} (h0 : 1 ≤ i) : ah B g (i + 1) = ah B g i + cnt B g i := by
  unfold ah
  rw [show (i + 1 - 1).toNat = (i - 1).toNat + 1 by omega, smz_sn, show 1 + ((i - 1).toNat : Int) = i by omega]
  omega
theorem ah_end {g : Int} (h : 1 ≤ bz B g) (h0 : 0 ≤ g) : ah B g (bz B g + 1) = gsu B (g + 1) := by
  rw [gsu_sn h0]
  unfold ah gl
  rw [show bz B g + 1 - 1 = bz B g by omega]
theorem ah_bd (hB : BOK B) {g i : Int} (h : isV B g i) : gsu B g ≤ ah B g i ∧ ah B g i + cnt B g i ≤ gsu B (g + 1) := by
  have h1 : ∀ j, 1 ≤ j → j < 1 + ((bz B g).toNat : Int) → 0 ≤ cnt B g j := fun j q1 q2 => (cnt_bd hB ⟨h.1, q1, by omega⟩).1
  have e1 := ah_sn (B := B) (g := g) (i := i) h.2.1
  have e3 := gsu_sn (B := B) h.1.1
  have m1 := smz_mono h1 (i - 1).toNat (by have := h.2; omega)
  have m2 := smz_mono h1 i.toNat (by have := h.2; omega)
  have m0 := smz_mono h1 0 (by omega)
  have m3 : 0 ≤ smz (cnt B g) (i - 1).toNat 1 := smz_nn fun j q1 q2 => h1 j q1 (by have := h.2; omega)
  have e4 : ah B g (i + 1) = gsu B g + smz (cnt B g) i.toNat 1 := by
    unfold ah
    rw [show i + 1 - 1 = i by omega]
  refine ⟨?_, ?_⟩
  · unfold ah; omega
  · rw [← e1, e4, e3]; unfold gl; omega
theorem ah_lt (hB : BOK B) {g i j : Int} (h : isV B g i) (h' : isV B g j) (hij : i < j) : ah B g i + cnt B g i ≤ ah B g j := by
  have e1 := ah_sn (B := B) (g := g) (i := i) h.2.1
  have h1 : ∀ q, 1 ≤ q → q < 1 + ((j - 1).toNat : Int) → 0 ≤ cnt B g q := fun q q1 q2 => (cnt_bd hB ⟨h.1, q1, by have := h'.2; omega⟩).1
  have m := smz_mono h1 (i + 1 - 1).toNat (by omega)
  rw [← e1]
  unfold ah
  omega
theorem LC_bd (hB : BOK B) {p g i k : Int} (h : isAt B p g i k) : 0 ≤ p ∧ p < LC B := by
  have h1 := ah_bd hB h.1
  have h2 := gsu_nn hB h.1.1.1 (by have := h.1.1; omega)
  have h3 := gsu_mono hB (g := g + 1) (h := bn B) (by have := h.1.1; omega) (by have := h.1.1; omega) (by omega)
  have h4 := h.2
  unfold LC
  unfold cnt at h1
  omega
theorem isAt_u (hB : BOK B) {p g i k g' i' k' : Int} (h : isAt B p g i k) (h' : isAt B p g' i' k') : g = g' ∧ i = i' ∧ k = k' := by
  have a1 := ah_bd hB h.1
  have a2 := ah_bd hB h'.1
  have b1 := h.2
  have b2 := h'.2
  have c1 := h.1.1
  have c2 := h'.1.1
  by_cases hg : g < g'
  · have := gsu_mono hB (g := g + 1) (h := g') (by omega) (by omega) (by omega)
    unfold cnt at a1 a2
    omega
  · by_cases hg2 : g' < g
    · have := gsu_mono hB (g := g' + 1) (h := g) (by omega) (by omega) (by omega)
      unfold cnt at a1 a2
      omega
    · have e : g = g' := by omega
      subst e
      by_cases hi : i < i'
      · have := ah_lt hB h.1 h'.1 hi
        unfold cnt at this
        omega
      · by_cases hi2 : i' < i
        · have := ah_lt hB h'.1 h.1 hi2
          unfold cnt at this
          omega
        · have e : i = i' := by omega
          subst e
          exact ⟨rfl, rfl, by omega⟩
theorem isAt_ex (hB : BOK B) {p : Int} (h0 : 0 ≤ p) (h1 : p < LC B) : ∃ g i k, isAt B p g i k := by
  unfold LC gsu at h1
  obtain ⟨m, m1, m2, m3⟩ := smz_find _ p h0 h1
  have hg : (0 : Int) ≤ (m : Int) ∧ (m : Int) < bn B := by omega
  rw [show (0 : Int) + (m : Int) = m by omega] at m3
  obtain ⟨j, j1, j2, j3⟩ := smz_find (f := cnt B m) (a := 1) (bz B m).toNat (p - smz (gl B) m 0) (by omega) (by unfold gl at m3; unfold gl; omega)
  refine ⟨m, 1 + j, p - smz (gl B) m 0 - smz (cnt B m) j 1 + cut B m (1 + j), ⟨hg, by omega, by omega⟩, ?_, ?_⟩
  · have e : cnt B m (1 + j) = bm B m (1 + j) + 1 - cut B m (1 + j) := rfl
    omega
  · unfold ah gsu
    rw [show (1 + (j : Int) - 1).toNat = j by omega, show ((m : Int)).toNat = m by omega]
    omega
theorem LC_tot (hB : BOK B) : 0 ≤ LC B ∧ LC B ≤ tot B := by
  refine ⟨gsu_nn hB hB.1.1 (Int.le_refl _), ?_⟩
  unfold LC gsu tot
  refine smz_le _ _ fun g q1 q2 => ?_
  have hz := hB.2.1 g q1 (by omega)
  have h1 : gl B g ≤ smz (fun i => 1 + bm B g i) (bz B g).toNat 1 := by
    unfold gl
    refine smz_le _ _ fun i r1 r2 => ?_
    have := cut01 (B := B) g i
    unfold cnt
    omega
  have h2 : ∀ (d : Nat) (a : Int), smz (fun _ => (1 : Int)) d a = d := by
    intro d
    induction d with
    | zero => intro a; rfl
    | succ d ih => intro a; show 1 + _ = _; rw [ih]; omega
  rw [smz_add (f := fun _ => (1 : Int)) (g := bm B g), h2] at h1
  omega
end BKK
/-- the model's book -/
def mB (W : IS) (b : Int) : BK := (W.2 6 b, fun g => W.2 7 (b * 71 + g), fun g => W.2 8 (b * 71 + g), fun g i => W.2 9 ((b * 71 + g) * 13 + i), fun g i => W.2 10 ((b * 71 + g) * 13 + i))
/-- its leaves are laid out -/
def Lay (B : BK) (LG LI LK : Int → Int) (n : Int) : Prop := ∀ p, 0 ≤ p → p < n → isAt B p (LG p) (LI p) (LK p)
def mL (W : IS) (b : Int) (n : Int) : Prop := Lay (mB W b) (fun p => W.2 12 (b * 400 + p)) (fun p => W.2 13 (b * 400 + p)) (fun p => W.2 14 (b * 400 + p)) n
