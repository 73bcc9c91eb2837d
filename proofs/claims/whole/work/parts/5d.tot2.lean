section TOT2
variable {J : JS} {p : Nat} {B : BK}
theorem smz_sh {f : Int → Int} {c : Int} : ∀ (d : Nat) (a : Int), smz (fun i => f (i + c)) d a = smz f d (a + c)
  | 0, a => rfl
  | d + 1, a => by
    rw [show smz (fun i => f (i + c)) (d + 1) a = f (a + c) + smz (fun i => f (i + c)) d (a + 1) from rfl, smz_sh d (a + 1), show smz f (d + 1) (a + c) = f (a + c) + smz f d (a + c + 1) from rfl, show a + 1 + c = a + c + 1 by omega]
theorem smz_rows {f : Int → Int} : ∀ (d : Nat) (a : Int), smz f (12 * d) (a * 12) = smz (fun s => smz f 12 (s * 12)) d a
  | 0, a => rfl
  | d + 1, a => by
    rw [show 12 * (d + 1) = 12 + 12 * d by omega, smz_cat, show a * 12 + ((12 : Nat) : Int) = (a + 1) * 12 by omega, smz_rows d (a + 1)]
    rfl
theorem c_tot (hP : PlR J p B) (hB : BOK B) : smz (fun s => ja J 4 p s) 71 0 + smz (fun l => ja J 6 p l) 852 0 = tot B := by
  obtain ⟨h1, h2, h3, h4, h5⟩ := hP
  obtain ⟨b1, b2, b3, b4⟩ := hB
  have en : ((bn B).toNat : Int) = bn B := by omega
  have s1 : smz (fun s => ja J 4 p s) 71 0 = smz (bz B) (bn B).toNat 0 := by
    refine smz_perm (bn B).toNat (bs B) (fun s => ja J 4 p s) (fun g g0 g1 => (b2 g g0 (by omega)).1) (fun g g' g0 g1 g2 => b4 g g' g0 g1 (by omega)) (fun g g0 g1 => (h2 g g0 (by omega)).2) (fun s q0 q1 hs => h4 s q0 (by omega) fun g g0 g1 => hs g g0 (by omega))
  have s2 : smz (fun l => ja J 6 p l) 852 0 = smz (fun g => smz (bm B g) (bz B g).toNat 1) (bn B).toNat 0 := by
    have r := smz_rows (f := fun l => ja J 6 p l) 71 0
    rw [show 12 * 71 = 852 from rfl, show (0 : Int) * 12 = 0 from rfl] at r
    rw [r]
    refine smz_perm (bn B).toNat (bs B) (fun s => smz (fun l => ja J 6 p l) 12 (s * 12)) (fun g g0 g1 => (b2 g g0 (by omega)).1) (fun g g' g0 g1 g2 => b4 g g' g0 g1 (by omega)) (fun g g0 g1 => ?_) (fun s q0 q1 hs => ?_)
    · have hb := b2 g g0 (by omega)
      show smz (fun l => ja J 6 p l) 12 (bs B g * 12) = smz (bm B g) (bz B g).toNat 1
      have e : smz (fun l => ja J 6 p l) 12 (bs B g * 12) = smz (fun i => ja J 6 p (i + (bs B g * 12 - 1))) 12 1 := by
        rw [smz_sh (f := fun l => ja J 6 p l) (c := bs B g * 12 - 1) 12 1, show 1 + (bs B g * 12 - 1) = bs B g * 12 by omega]
      rw [e, show (12 : Nat) = (bz B g).toNat + (12 - (bz B g).toNat) by omega, smz_cat, smz_0 (12 - (bz B g).toNat) _ fun i i0 i1 => ?_, Int.add_zero]
      · refine smz_cg _ _ fun i i0 i1 => ?_
        have hv : isV B g i := ⟨⟨g0, by omega⟩, i0, by omega⟩
        show ja J 6 p (i + (bs B g * 12 - 1)) = bm B g i
        rw [← (h3 g i hv).2]
        unfold slt
        rw [show i + (bs B g * 12 - 1) = bs B g * 12 + i - 1 by omega]
      · refine (h5 _ (by omega) (by omega) fun g' i' hv e' => ?_).2
        unfold slt at e'
        have hb' := b2 g' hv.1.1 hv.1.2
        have hi' := hv.2
        have es : bs B g' = bs B g ∧ i' = i := by omega
        by_cases c : g' = g
        · subst c; omega
        · by_cases c1 : g' < g
          · exact b4 g' g hv.1.1 c1 (by omega) es.1
          · exact b4 g g' g0 (by omega) hv.1.2 es.1.symm
    · show smz (fun l => ja J 6 p l) 12 (s * 12) = 0
      refine smz_0 12 _ fun l l0 l1 => (h5 l (by omega) (by omega) fun g i hv e => ?_).2
      unfold slt at e
      have hb := b2 g hv.1.1 hv.1.2
      have hi := hv.2
      exact hs g hv.1.1 (by have := hv.1.2; omega) (by omega)
  rw [s1, s2, ← smz_add]
  rfl
end TOT2
