/-! ===== the same book ===== -/
def BEq (B B' : BK) : Prop := bn B' = bn B ∧ (∀ g, 0 ≤ g → g < bn B → bs B' g = bs B g ∧ bz B' g = bz B g) ∧ ∀ g i, isV B g i → bf B' g i = bf B g i ∧ bm B' g i = bm B g i
section BEQ
variable {B B' : BK}
theorem BEq.V (h : BEq B B') {g i : Int} (hV : isV B g i) : isV B' g i := by
  have h1 := h.1
  have h2 := (h.2.1 g hV.1.1 hV.1.2).2
  have h3 := hV.1
  have h4 := hV.2
  exact ⟨by omega, by omega⟩
theorem BEq.symm (h : BEq B B') : BEq B' B := by
  have h1 := h.1
  have hz : ∀ g, 0 ≤ g → g < bn B' → bs B' g = bs B g ∧ bz B' g = bz B g := fun g g0 g1 => h.2.1 g g0 (by omega)
  refine ⟨h1.symm, fun g g0 g1 => ⟨(hz g g0 g1).1.symm, (hz g g0 g1).2.symm⟩, fun g i hV => ?_⟩
  have h3 := hV.1
  have h4 := hV.2
  have h5 := (hz g h3.1 h3.2).2
  have := h.2.2 g i ⟨by omega, by omega⟩
  exact ⟨this.1.symm, this.2.symm⟩
theorem BEq.ok (h : BEq B B') (hB : BOK B) : BOK B' := by
  obtain ⟨h1, h2, h3⟩ := h
  obtain ⟨b1, b2, b3, b4⟩ := hB
  refine ⟨by omega, fun g g0 g1 => ?_, fun g i g0 g1 i0 i1 => ?_, fun g g' g0 g1 g2 => ?_⟩
  · have := h2 g g0 (by omega)
    rw [this.1, this.2]
    exact b2 g g0 (by omega)
  · have e := h2 g g0 (by omega)
    have := h3 g i ⟨⟨g0, by omega⟩, i0, by omega⟩
    rw [this.1, this.2]
    exact b3 g i g0 (by omega) i0 (by omega)
  · rw [(h2 g g0 (by omega)).1, (h2 g' (by omega) (by omega)).1]
    exact b4 g g' g0 g1 (by omega)
theorem BEq.cut' (h : BEq B B') {g i : Int} (hV : isV B g i) : cut B' g i = cut B g i ∧ cnt B' g i = cnt B g i := by
  have e := h.2.2 g i hV
  have e1 : cut B' g i = cut B g i := by unfold cut; rw [e.1]
  exact ⟨e1, by unfold cnt; rw [e1, e.2]⟩
theorem BEq.gl' (h : BEq B B') {g : Int} (g0 : 0 ≤ g) (g1 : g < bn B) : gl B' g = gl B g := by
  unfold gl
  rw [(h.2.1 g g0 g1).2]
  exact smz_cg _ _ fun i i0 i1 => (h.cut' ⟨⟨g0, g1⟩, i0, by omega⟩).2
theorem BEq.gsu' (h : BEq B B') {g : Int} (g0 : 0 ≤ g) (g1 : g ≤ bn B) : gsu B' g = gsu B g := by
  unfold gsu
  exact smz_cg _ _ fun i i0 i1 => h.gl' i0 (by omega)
theorem BEq.ah' (h : BEq B B') {g i : Int} (hV : isV B g i) : ah B' g i = ah B g i := by
  unfold ah
  have h1 := hV.1
  have h2 := hV.2
  rw [h.gsu' h1.1 (by omega)]
  congr 1
  exact smz_cg _ _ fun j j0 j1 => (h.cut' ⟨hV.1, j0, by omega⟩).2
theorem BEq.LC' (h : BEq B B') (hB : BOK B) : LC B' = LC B := by
  unfold LC
  rw [h.1]
  exact h.gsu' hB.1.1 (Int.le_refl _)
theorem BEq.at' (h : BEq B B') {p g i k : Int} (hA : isAt B p g i k) : isAt B' p g i k := by
  obtain ⟨a1, a2, a3⟩ := hA
  refine ⟨h.V a1, ?_, ?_⟩
  · rw [(h.cut' a1).1, (h.2.2 g i a1).2]
    exact a2
  · rw [h.ah' a1, (h.cut' a1).1]
    exact a3
theorem BEq.knd' (h : BEq B B') {g i k : Int} (hV : isV B g i) : knd B' g i k = knd B g i k := by
  unfold knd
  rw [(h.2.2 g i hV).1]
theorem BEq.pl' (h : BEq B B') {J : JS} {p : Nat} (hP : PlR J p B) : PlR J p B' := by
  obtain ⟨p1, p2, p3, p4, p5⟩ := hP
  obtain ⟨h1, h2, h3⟩ := h
  have hs : ∀ g i, slt B' g i = bs B' g * 12 + i - 1 := fun _ _ => rfl
  have hs' : ∀ g i, slt B g i = bs B g * 12 + i - 1 := fun _ _ => rfl
  refine ⟨p1.trans h1.symm, fun g g0 g1 => ?_, fun g i hV => ?_, fun s s0 s1 hn => p4 s s0 s1 fun g g0 g1 => ?_, fun l l0 l1 hn => p5 l l0 l1 fun g i hV => ?_⟩
  · rw [(h2 g g0 (by omega)).1, (h2 g g0 (by omega)).2]
    exact p2 g g0 (by omega)
  · have hV' := hV.1
    have hz := h2 g hV'.1 (by omega)
    have hV0 : isV B g i := ⟨⟨hV'.1, by omega⟩, hV.2.1, by have := hV.2.2; omega⟩
    rw [hs, hz.1, ← hs', (h3 g i hV0).1, (h3 g i hV0).2]
    exact p3 g i hV0
  · rw [← (h2 g g0 g1).1]
    exact hn g g0 (by omega)
  · have hz := h2 g hV.1.1 hV.1.2
    rw [hs', ← hz.1, ← hs]
    exact hn g i (BEq.V ⟨h1, h2, h3⟩ hV)
theorem BEq.chI' (h : BEq B B') {g : Int} (g0 : 0 ≤ g) (g1 : g < bn B) : ∀ (d : Nat) (i : Int) (acc : List Nat), 1 ≤ i → i + d ≤ bz B g + 1 → chI B' g d i acc = chI B g d i acc
  | 0, _, _, _, _ => rfl
  | d + 1, i, acc, i0, i1 => by
    have e := h.2.2 g i ⟨⟨g0, g1⟩, i0, by omega⟩
    have es := (h.2.1 g g0 g1).1
    show chI B' g d (i + 1) (itM B' g i (itF B' g i acc)) = chI B g d (i + 1) (itM B g i (itF B g i acc))
    have e1 : ∀ a, itF B' g i a = itF B g i a := fun a => by unfold itF; rw [e.1, es]
    have e2 : ∀ a, itM B' g i a = itM B g i a := fun a => by unfold itM; rw [e.2, es]
    rw [e1, e2]
    exact h.chI' g0 g1 d (i + 1) _ (by omega) (by omega)
theorem BEq.chG' (h : BEq B B') (hB : BOK B) : ∀ (d : Nat) (g : Int) (acc : List Nat), 0 ≤ g → g + d ≤ bn B → chG B' d g acc = chG B d g acc
  | 0, _, _, _, _ => rfl
  | d + 1, g, acc, g0, g1 => by
    have hz := (hB.2.1 g g0 (by omega)).2
    show chG B' d (g + 1) (chI B' g (bz B' g).toNat 1 acc) = chG B d (g + 1) (chI B g (bz B g).toNat 1 acc)
    rw [(h.2.1 g g0 (by omega)).2, h.chI' g0 (by omega) _ 1 acc (by omega) (by omega)]
    exact h.chG' hB d (g + 1) _ (by omega) (by omega)
theorem BEq.grT' (h : BEq B B') (hB : BOK B) {f t : Int} (f0 : 0 ≤ f) (f1 : f ≤ t) (f2 : t < bn B) : grT B' f t = grT B f t := by
  unfold grT chT
  rw [(h.2.1 f f0 (by omega)).1, (h.2.1 f f0 (by omega)).2, (h.2.1 t (by omega) f2).1, h.chG' hB _ f [] f0 (by omega)]
theorem BEq.fT' (h : BEq B B') (hB : BOK B) : ∀ (d : Nat) (f g : Int), 0 ≤ f → f ≤ g → g + d = bn B → fT B' d f g = fT B d f g
  | 0, _, _, _, _, _ => rfl
  | d + 1, f, g, f0, f1, f2 => by
    have e : goes B' g ↔ goes B g := by
      unfold goes
      rw [h.1, (h.2.1 g (by omega) (by omega)).1, (h.2.1 g (by omega) (by omega)).2]
      by_cases c : g + 1 < bn B
      · rw [(h.2.1 (g + 1) (by omega) c).1, (h.2.1 (g + 1) (by omega) c).2]
      · exact ⟨fun q => absurd q.1 c, fun q => absurd q.1 c⟩
    unfold fT
    by_cases c : goes B g
    · rw [if_pos c, if_pos (e.mpr c)]
      exact h.fT' hB d f (g + 1) f0 (by omega) (by omega)
    · rw [if_neg c, if_neg (fun q => c (e.mp q)), h.grT' hB f0 f1 (by omega), h.fT' hB d (g + 1) (g + 1) (by omega) (by omega) (by omega)]
theorem BEq.bkT' (h : BEq B B') (hB : BOK B) : bkT B' = bkT B := by
  have h71 := hB.1
  unfold bkT
  rw [h.1]
  exact h.fT' hB _ 0 0 (by omega) (by omega) (by omega)
/-- the numbers of book b are the same -/
def BkS (W W' : IS) (b : Int) : Prop := W'.2 6 b = W.2 6 b ∧ (∀ g, 0 ≤ g → g < 71 → W'.2 7 (b * 71 + g) = W.2 7 (b * 71 + g) ∧ W'.2 8 (b * 71 + g) = W.2 8 (b * 71 + g) ∧ ∀ i, 0 ≤ i → i < 13 → W'.2 9 ((b * 71 + g) * 13 + i) = W.2 9 ((b * 71 + g) * 13 + i) ∧ W'.2 10 ((b * 71 + g) * 13 + i) = W.2 10 ((b * 71 + g) * 13 + i)) ∧ W'.2 11 b = W.2 11 b ∧ ∀ p, 0 ≤ p → p < 400 → W'.2 12 (b * 400 + p) = W.2 12 (b * 400 + p) ∧ W'.2 13 (b * 400 + p) = W.2 13 (b * 400 + p) ∧ W'.2 14 (b * 400 + p) = W.2 14 (b * 400 + p)
theorem BkS.eq {W W' : IS} {b : Int} (h : BkS W W' b) (hB : BOK (mB W b)) : BEq (mB W b) (mB W' b) := by
  have h71 := hB.1
  refine ⟨h.1, fun g g0 g1 => ?_, fun g i hV => ?_⟩
  · have := h.2.1 g g0 (by omega)
    exact ⟨this.1, this.2.1⟩
  · have hz := (hB.2.1 g hV.1.1 hV.1.2).2
    have hV2 := hV.2
    exact (h.2.1 g hV.1.1 (by have := hV.1; omega)).2.2 i (by omega) (by omega)
theorem BkS.bk {W W' : IS} {b : Int} (h : BkS W W' b) (hI : BkI W b) : BkI W' b := by
  have hE := h.eq hI.1
  have hL := hE.LC' hI.1
  refine ⟨hE.ok hI.1, ?_, ?_, fun p p0 p1 => ?_⟩
  · rw [h.2.2.1, hL]; exact hI.2.1
  · rw [hL]; exact hI.2.2.1
  · rw [hL] at p1
    have h4 := hI.2.2.1
    have e := h.2.2.2 p p0 (by omega)
    show isAt (mB W' b) p (W'.2 12 (b * 400 + p)) (W'.2 13 (b * 400 + p)) (W'.2 14 (b * 400 + p))
    rw [e.1, e.2.1, e.2.2]
    exact hE.at' (hI.at p0 p1)
theorem BkS.bo {W W' : IS} {J : JS} {b : Nat} (h : BkS W W' (b : Int)) (hI : BkI W (b : Int)) (hJ : BoR J W b) : BoR J W' b := by
  have hE := h.eq hI.1
  have hL := hE.LC' hI.1
  have h4 := hI.2.2.1
  obtain ⟨j1, j2, j3, j4, j5⟩ := hJ
  refine ⟨hE.pl' j1, j2, fun g i hV => ?_, ?_, fun p p0 p1 => ?_⟩
  · have hV0 := hE.symm.V hV
    have hs : slt (mB W' b) g i = slt (mB W b) g i := by
      show bs (mB W' b) g * 12 + i - 1 = bs (mB W b) g * 12 + i - 1
      rw [(hE.2.1 g hV0.1.1 hV0.1.2).1]
    rw [hs, hE.ah' hV0]
    exact j3 g i hV0
  · rw [hL]; exact j4
  · rw [hL] at p1
    have e := h.2.2.2 p p0 (by omega)
    have hA := (hI.at p0 p1).1
    rw [e.1, e.2.1, e.2.2, hE.knd' hA]
    exact j5 p p0 p1
theorem BkS.nm {W W' : IS} {b p : Int} (h : BkS W W' b) (hI : BkI W b) (p0 : 0 ≤ p) (p1 : p < LC (mB W b)) : nmT W' b p = nmT W b p := by
  have hE := h.eq hI.1
  have h4 := hI.2.2.1
  have e := h.2.2.2 p p0 (by omega)
  have hA := (hI.at p0 p1).1
  unfold nmT
  rw [e.1, e.2.1, e.2.2, (hE.2.1 _ hA.1.1 hA.1.2).1]
end BEQ
