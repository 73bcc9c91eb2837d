/-! ===== the class copies a plan ===== -/
/-- plan q is copied to plan p -/
def CpP (J J' : JS) (q p : Nat) : Prop := (js J' 6 p = js J 6 q ∧ js J' 7 p = js J 7 q) ∧ (∀ l, 0 ≤ l → l < 71 → ja J' 3 p l = ja J 3 q l ∧ ja J' 4 p l = ja J 4 q l) ∧ (∀ l, 0 ≤ l → l < 852 → ja J' 5 p l = ja J 5 q l ∧ ja J' 6 p l = ja J 6 q l) ∧ (∀ t i, ¬ ((t = 6 ∨ t = 7) ∧ i = p) → js J' t i = js J t i) ∧ (∀ t i, ¬ ((3 ≤ t ∧ t ≤ 6) ∧ i = p) → ja J' t i = ja J t i) ∧ J'.2.2 = J.2.2
section CPP
variable {J : JS} {B : BK} {p q : Nat}
theorem jpCp {t i t2 i2 : Nat} {n : Int} {Q : Unit → JS → Prop} : wp (jCp t i t2 i2 n) Q J = ((kj J (20 + t, i) = true ∧ kj J (20 + t2, i2) = true ∧ by2 t = by2 t2 ∧ 0 ≤ n ∧ n ≤ jl t i ∧ n ≤ jl t2 i2 ∧ (by2 t = true → ∀ j : Fin n.toNat, iB8 (ja J t i j.1) = ja J t i j.1)) ∧ Q () (juA J t2 i2 (fun l => if l < n then ja J t i l else ja J t2 i2 l))) := wp_if rfl
theorem kj2x {J1 : JS} (h : J1.2.2 = J.2.2) (hp : p ≤ jB J) : ∀ t, t = 2 ∨ t = 23 ∨ t = 24 ∨ t = 25 ∨ t = 26 → kj J1 (t, p) = true := fun t ht => by
  have e : jB J1 = jB J := by unfold jB; rw [h]
  rcases ht with e1 | e1 | e1 | e1 | e1 <;> subst e1 <;> exact decide_eq_true (p := p ≤ jB J1) (by omega)
/-- one row of it -/
theorem c_cp1 {J1 : JS} {t : Nat} {n : Nat} (ht : t = 3 ∨ t = 4 ∨ t = 5 ∨ t = 6) (hn : n = jl t 0) (hpq : p ≠ q) (hp : p ≤ jB J) (hq' : q ≤ jB J) (h : J1.2.2 = J.2.2) (hb : t = 5 ∨ t = 6 → ∀ l, 0 ≤ l → l < 852 → iB8 (ja J1 t q l) = ja J1 t q l) {f : Unit → JM Unit} {Q : Unit → JS → Prop}
    (hk : ∀ J2, J2.2.2 = J.2.2 → js J2 = js J1 → (∀ l : Int, 0 ≤ l → l < n → ja J2 t p l = ja J1 t q l) → (∀ t' i, ¬ (t' = t ∧ i = p) → ja J2 t' i = ja J1 t' i) → wp (f ()) Q J2) : wp (ib (jCp t q t p n) f) Q J1 := by
  have e1 : jl t p = jl t 0 ∧ jl t q = jl t 0 := by rcases ht with e | e | e | e <;> subst e <;> exact ⟨rfl, rfl⟩
  rw [wp_ib, jpCp]
  refine ⟨⟨kj2x h hq' _ (by omega), kj2x h hp _ (by omega), rfl, by omega, by omega, by omega, fun hbb j => ?_⟩, hk _ h rfl (fun l l0 l1 => ?_) fun t' i c => ?_⟩
  · have h56 : t = 5 ∨ t = 6 := by
      rcases ht with e | e | e | e <;> subst e
      · cases hbb
      · cases hbb
      · exact Or.inl rfl
      · exact Or.inr rfl
    have hj := j.2
    have e2 : jl t 0 = 852 := by rcases h56 with e | e <;> subst e <;> rfl
    exact hb h56 _ (by omega) (by omega)
  · rw [juA_a, if_pos ⟨rfl, rfl⟩, if_pos l1]
  · funext l
    rw [juA_a, if_neg c]
theorem c_copyFrom (hpq : p ≠ q) (hp : p ≤ jB J) (hq' : q ≤ jB J) (hb : ∀ l, 0 ≤ l → l < 852 → iB8 (ja J 5 q l) = ja J 5 q l ∧ iB8 (ja J 6 q l) = ja J 6 q l) {Q : Unit → JS → Prop} (hk : ∀ J', CpP J J' q p → Q () J') : wp (G6_copyFrom p q) Q J := by
  unfold G6_copyFrom
  rw [wp_ib, jp_E]
  refine ⟨kj2x rfl hq' _ (by omega), ?_⟩
  rw [wp_ib, jp_E]
  refine ⟨kj2x rfl hp _ (by omega), ?_⟩
  refine c_cp1 (n := 71) (by omega) rfl hpq hp hq' rfl (fun c => by omega) fun J1 r1 s1 a1 o1 => ?_
  rw [wp_ib, jp_E]
  refine ⟨kj2x r1 hq' _ (by omega), ?_⟩
  rw [wp_ib, jp_E]
  refine ⟨kj2x r1 hp _ (by omega), ?_⟩
  refine c_cp1 (n := 71) (by omega) rfl hpq hp hq' r1 (fun c => by omega) fun J2 r2 s2 a2 o2 => ?_
  rw [wp_ib, jp_E]
  refine ⟨kj2x r2 hq' _ (by omega), ?_⟩
  rw [wp_ib, jp_E]
  refine ⟨kj2x r2 hp _ (by omega), ?_⟩
  refine c_cp1 (n := 852) (by omega) rfl hpq hp hq' r2 (fun c l l0 l1 => ?_) fun J3 r3 s3 a3 o3 => ?_
  · rw [o2 5 q (by omega), o1 5 q (by omega)]
    exact (hb l l0 l1).1
  rw [wp_ib, jp_E]
  refine ⟨kj2x r3 hq' _ (by omega), ?_⟩
  rw [wp_ib, jp_E]
  refine ⟨kj2x r3 hp _ (by omega), ?_⟩
  refine c_cp1 (n := 852) (by omega) rfl hpq hp hq' r3 (fun c l l0 l1 => ?_) fun J4 r4 s4 a4 o4 => ?_
  · rw [o3 6 q (by omega), o2 6 q (by omega), o1 6 q (by omega)]
    exact (hb l l0 l1).2
  have e4 : js J4 = js J := s4.trans (s3.trans (s2.trans s1))
  rw [wp_ib, jG6]
  refine ⟨kj2x r4 hq' _ (by omega), ?_⟩
  rw [wp_ib, jP6]
  refine ⟨kj2x r4 hp _ (by omega), ?_⟩
  rw [wp_ib, jG7]
  refine ⟨kj2x (J1 := ju1 J4 6 p (js J4 6 q)) r4 hq' _ (by omega), ?_⟩
  rw [wp_ib, jP7]
  refine ⟨kj2x (J1 := ju1 J4 6 p (js J4 6 q)) r4 hp _ (by omega), ?_⟩
  rw [jp_ret]
  refine hk _ ⟨⟨?_, ?_⟩, fun l l0 l1 => ?_, fun l l0 l1 => ?_, fun t i c => ?_, fun t i c => ?_, r4⟩
  · rw [ju1_s, if_neg (by omega), ju1_s, if_pos ⟨rfl, rfl⟩, e4]
  · rw [ju1_s, if_pos ⟨rfl, rfl⟩, ju1_s, if_neg (by omega), e4]
  · rw [ju1_a, ju1_a, o4 3 p (by omega), o3 3 p (by omega), o2 3 p (by omega), a1 l l0 l1, o4 4 p (by omega), o3 4 p (by omega), a2 l l0 l1, o1 4 q (by omega)]
    exact ⟨rfl, rfl⟩
  · rw [ju1_a, ju1_a, o4 5 p (by omega), a3 l l0 l1, a4 l l0 l1, o2 5 q (by omega), o1 5 q (by omega), o3 6 q (by omega), o2 6 q (by omega), o1 6 q (by omega)]
    exact ⟨rfl, rfl⟩
  · rw [ju1_s, if_neg (by omega), ju1_s, if_neg (by omega), e4]
  · rw [ju1_a, ju1_a, o4 t i (by omega), o3 t i (by omega), o2 t i (by omega), o1 t i (by omega)]
theorem PlR.cp {J' : JS} (hP : PlR J q B) (hB : BOK B) (h : CpP J J' q p) : PlR J' p B := by
  obtain ⟨p1, p2, p3, p4, p5⟩ := hP
  obtain ⟨⟨c1, c2⟩, c3, c4, _⟩ := h
  have h71 := hB.1
  refine ⟨c1.trans p1, fun g g0 g1 => ?_, fun g i hV => ?_, fun s s0 s1 hs => ?_, fun l l0 l1 hl => ?_⟩
  · have hs := (hB.2.1 g g0 g1).1
    rw [(c3 g g0 (by omega)).1, (c3 (bs B g) (by omega) (by omega)).2]
    exact p2 g g0 g1
  · have hs := slt_bd hB hV
    rw [(c4 _ hs.1 hs.2).1, (c4 _ hs.1 hs.2).2]
    exact p3 g i hV
  · rw [(c3 s s0 s1).2]
    exact p4 s s0 s1 hs
  · rw [(c4 l l0 l1).1, (c4 l l0 l1).2]
    exact p5 l l0 l1 hl
/-- what the plan of a book holds are bytes -/
theorem PlR.by (hP : PlR J q B) (hB : BOK B) {l : Int} (l0 : 0 ≤ l) (l1 : l < 852) : (ja J 5 q l = 0 ∨ ja J 5 q l = 45 ∨ ja J 5 q l = 61) ∧ (0 ≤ ja J 6 q l ∧ ja J 6 q l ≤ 4) := by
  by_cases c : ∃ g i, isV B g i ∧ slt B g i = l
  · obtain ⟨g, i, hV, rfl⟩ := c
    have h1 := hP.2.2.1 g i hV
    have h2 := hB.2.2.1 g i hV.1.1 hV.1.2 hV.2.1 hV.2.2
    rw [h1.1, h1.2]
    refine ⟨?_, h2.2⟩
    unfold fC
    split
    · omega
    · split <;> omega
  · have := hP.2.2.2.2 l l0 l1 fun g i hV e => c ⟨g, i, hV, e⟩
    omega
theorem b8s {v : Int} (h : (v = 0 ∨ v = 45 ∨ v = 61) ∨ (0 ≤ v ∧ v ≤ 4)) : iB8 v = v := by
  have : v = 0 ∨ v = 1 ∨ v = 2 ∨ v = 3 ∨ v = 4 ∨ v = 45 ∨ v = 61 := by omega
  rcases this with e | e | e | e | e | e | e <;> subst e <;> decide
theorem c_copyPl (hpq : p ≠ q) (hp : p ≤ jB J) (hq' : q ≤ jB J) (hP : PlR J q B) (hB : BOK B) {Q : Unit → JS → Prop} (hk : ∀ J', CpP J J' q p → PlR J' p B → Q () J') : wp (G6_copyFrom p q) Q J :=
  c_copyFrom hpq hp hq' (fun l l0 l1 => ⟨b8s (Or.inl (hP.by hB l0 l1).1), b8s (Or.inr (hP.by hB l0 l1).2)⟩) fun J' h => hk J' h (hP.cp hB h)
end CPP
