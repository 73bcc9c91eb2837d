/-! ===== what is set into books, copies; programs that end in a new text ===== -/
def cSB (k : Int32) (b : Nat) : CM Unit := fun S => if inb k 8 ∧ b < zB S then some ((), (S.1, S.2.1, S.2.2.1, S.2.2.2.1, S.2.2.2.2.1, ((fun i => if i = k.toNatClampNeg then some b else zb S i), zd S), S.2.2.2.2.2.2)) else none
def cSC (k : Int32) (c : Nat) : CM Unit := fun S => if inb k 16 ∧ c < zC S then some ((), (S.1, S.2.1, S.2.2.1, S.2.2.2.1, S.2.2.2.2.1, (zb S, (fun i => if i = k.toNatClampNeg then some c else zd S i)), S.2.2.2.2.2.2)) else none
def cPN (c s : Nat) : CM Unit := fun S => if c < zC S ∧ s < zT S then some ((), (S.1, S.2.1, S.2.2.1, S.2.2.2.1, S.2.2.2.2.1, S.2.2.2.2.2.1, S.2.2.2.2.2.2.1, S.2.2.2.2.2.2.2.1, (zw S, zr S, fun i => if i = c then s else zn S i))) else none
def cTos (L : Nat) : CM Nat := fun S => if (zx S).length ≤ L then some (zT S, uT S) else none
/-- a program that ends in a new text -/
def Sa (am : AM) (L : Nat) (x : MM (Option Nat)) (c : CM Nat) : Prop := ∀ (S : CS) (v : Nat) (S' : CS), c S = some (v, S') → ∀ (b1 b2 : Nat) (h : AH), RC am b1 b2 S h → ∃ (a len : Nat) (h' : AH), x h = some (some a, h') ∧ RC (amT am v a) (b1 + 2) (b2 + 4 + len) S' h' ∧ FrC am h h' ∧ len ≤ L ∧ v < zT S'
/-- a program after which there may be more objects; k: for what it answers, the most cells and slots -/
def So (am : AM) (k : Int32 → Nat × Nat) (x : MM Int32) (c : CM Int32) : Prop := ∀ (S : CS) (v : Int32) (S' : CS), c S = some (v, S') → ∀ (b1 b2 : Nat) (h : AH), RC am b1 b2 S h → ∃ (am' : AM) (h' : AH) (c1 c2 : Nat), x h = some (v, h') ∧ am'.1 = am.1 ∧ RC am' (b1 + c1) (b2 + c2) S' h' ∧ FrC am h h' ∧ c1 ≤ (k v).1 ∧ c2 ≤ (k v).2
section MKE
variable {α β γ δ : Type} {am : AM} {x : MM β} {n : CM α} {g : α → β} {L : Nat} {k : Int32 → Nat × Nat}
theorem sc_sRB {i : Int32} {b : Nat} {F : Unit → MM β} {f : Unit → CM α} (h2 : Sc am g (F ()) (f ())) : Sc am g (mb (sR (some (am.1 + 44)) i (some (aBo am b))) F) (cb (cSB i b) f) :=
  sc_cal (k := id) (fun S u S' e b1 b2 h hR => by
    unfold cSB at e
    split at e
    · rename_i hq
      obtain ⟨hi, hb⟩ := hq
      cases e
      have hc : ce h (am.1 + 44) = cel am S (11, 0) := hR.at (q := (11, 0)) rfl
      have hc : ce h (am.1 + 44) = .inl (3, 8, .inr (.inr (.inr (.inr (fun i => (zb S i).map (aBo am)))))) := hc
      have hc2 : ce h (aBo am b) = cel am S (3, b) := hR.at (q := (3, b)) (decide_eq_true hb)
      obtain ⟨own, v, cap, gr, fb, hRb⟩ := id hR
      have hW : WF S := by
        obtain ⟨-, -, -, -, -, -, -, -, -, -, -, -, -, -, -, r8⟩ := hRb
        exact r8
      obtain ⟨r, f2⟩ := hR.put (q := (11, 0)) (S' := (S.1, S.2.1, S.2.2.1, S.2.2.2.1, S.2.2.2.2.1, ((fun j => if j = i.toNatClampNeg then some b else zb S j), zd S), S.2.2.2.2.2.2)) rfl (fun _ => rfl) (fun q hx hq => by
        obtain ⟨c, j⟩ := q
        have hc11 : c ≠ 11 := fun hc => by
          subst hc
          have hj : j = 0 := of_decide_eq_true hx
          exact hq (by rw [hj])
        unfold cel
        by_cases h14 : 14 ≤ c
        · rw [if_pos h14, if_pos h14]; rfl
        · rw [if_neg h14, if_neg h14]
          simp only
          rw [if_neg hc11, if_neg hc11]
          rfl) ⟨rfl, rfl, rfl⟩ (fun w => ⟨w.1, w.2.1, fun j c hj => by
            have hj : (if j = i.toNatClampNeg then some b else zb S j) = some c := hj
            by_cases h9 : j = i.toNatClampNeg
            · rw [if_pos h9] at hj; cases hj; exact hb
            · rw [if_neg h9] at hj; exact w.2.2.1 j c hj, w.2.2.2⟩)
      refine ⟨_, ?_, r, f2⟩
      have e9 : cel am (S.1, S.2.1, S.2.2.1, S.2.2.2.1, S.2.2.2.2.1, ((fun j => if j = i.toNatClampNeg then some b else zb S j), zd S), S.2.2.2.2.2.2) (11, 0) = .inl (3, 8, .inr (.inr (.inr (.inr (va_up (fun i => (zb S i).map (aBo am)) i.toNatClampNeg (some (aBo am b))))))) := by
        have : (fun j => (if j = i.toNatClampNeg then some b else zb S j).map (aBo am)) = va_up (fun i => (zb S i).map (aBo am)) i.toNatClampNeg (some (aBo am b)) := funext fun j => by
          unfold va_up
          split <;> rfl
        show Sum.inl (3, 8, Sum.inr (Sum.inr (Sum.inr (Sum.inr (fun j => (if j = i.toNatClampNeg then some b else zb S j).map (aBo am)))))) = _
        rw [this]
      rw [e9]
      have hc2 : ce h (aBo am b) = .inr (2, _) := hc2
      unfold sR
      simp only [hc, hc2]
      exact if_pos ⟨Or.inl trivial, rfl, hi⟩
    · cases e) (fun _ => h2)
theorem sa_cf {x : MM (Option Nat)} : Sa am L x cf := fun S v S' e => by cases e
theorem sa_tos : Sa am L (mb (wc 1 (some (am.1 + 42)) fun t => J4_toString_0e30d t) fun v => mr v) (cTos L) := fun S v S' e b1 b2 h hR => by
  unfold cTos at e
  split at e
  · rename_i hl
    cases e
    obtain ⟨h', e1, r, f⟩ := wb_tos hR
    exact ⟨h.1, (zx S).length, h', by rw [mb_s e1]; rfl, r, f, hl, Nat.lt_succ_self _⟩
  · cases e
theorem sa_ite {c : Prop} {d : Decidable c} {A B : MM (Option Nat)} {a b : CM Nat} (h1 : Sa am L A a) (h2 : Sa am L B b) : Sa am L (@ite _ c d A B) (@ite _ c d a b) := by
  by_cases h : c
  · rw [if_pos h, if_pos h]; exact h1
  · rw [if_neg h, if_neg h]; exact h2
theorem sa_cal {y : MM δ} {z : CM γ} {k : γ → δ} {F : δ → MM (Option Nat)} {f : γ → CM Nat} (h1 : Sc am k y z) (h2 : ∀ v, Sa am L (F (k v)) (f v)) : Sa am L (mb y F) (cb z f) := fun S v S' e b1 b2 h hR => by
  unfold cb at e
  cases hz : z S with
  | none => rw [hz] at e; cases e
  | some q =>
    rw [hz] at e
    obtain ⟨h1', e1, r1, f1⟩ := h1 S q.1 q.2 hz b1 b2 h hR
    obtain ⟨a, len, h2', e2, r2, f2, l1, l2⟩ := h2 q.1 q.2 v S' e b1 b2 h1' r1
    exact ⟨a, len, h2', by rw [mb_s e1]; exact e2, r2, f1.trans f2, l1, l2⟩
/-- the first step of a program, by itself -/
theorem sc_1 {y : MM δ} {z : CM γ} {k : γ → δ} (h : Sc am k (mb y fun v => mr v) (cb z fun v => cr v)) : Sc am k y z := fun S v S' e b1 b2 h0 hR => by
  obtain ⟨h', e1, r, f⟩ := h S v S' (by unfold cb; rw [e]; rfl) b1 b2 h0 hR
  refine ⟨h', ?_, r, f⟩
  unfold mb at e1
  cases hy : y h0 with
  | none => rw [hy] at e1; cases e1
  | some q => rw [hy] at e1; exact e1
theorem so_sc {x : MM Int32} {c : CM Int32} (h : Sc am id x c) : So am k x c := fun S v S' e b1 b2 h0 hR => by
  obtain ⟨h', e1, r, f⟩ := h S v S' e b1 b2 h0 hR
  exact ⟨am, h', 0, 0, e1, rfl, r, f, Nat.zero_le _, Nat.zero_le _⟩
theorem so_cal {y : MM δ} {z : CM γ} {kk : γ → δ} {F : δ → MM Int32} {f : γ → CM Int32} (h1 : Sc am kk y z) (h2 : ∀ v, So am k (F (kk v)) (f v)) : So am k (mb y F) (cb z f) := fun S v S' e b1 b2 h hR => by
  unfold cb at e
  cases hz : z S with
  | none => rw [hz] at e; cases e
  | some q =>
    rw [hz] at e
    obtain ⟨h1', e1, r1, f1⟩ := h1 S q.1 q.2 hz b1 b2 h hR
    obtain ⟨am', h2', c1, c2, e2, e3, r2, f2, l⟩ := h2 q.1 q.2 v S' e b1 b2 h1' r1
    exact ⟨am', h2', c1, c2, by rw [mb_s e1]; exact e2, e3, r2, f1.trans f2, l⟩
theorem so_ite {c : Prop} {d : Decidable c} {A B : MM Int32} {a b : CM Int32} (h1 : So am k A a) (h2 : So am k B b) : So am k (@ite _ c d A B) (@ite _ c d a b) := by
  by_cases h : c
  · rw [if_pos h, if_pos h]; exact h1
  · rw [if_neg h, if_neg h]; exact h2
theorem so_con {r : Option Nat} {kk : Nat → Nat} {A B : MM Int32} {a : CM Int32} {b : Nat → CM Int32} (h1 : r = none → So am k A a) (h2 : ∀ i, r = some i → So am k B (b i)) : So am k (if r.map kk = none then A else B) (con r a b) := by
  cases r with
  | none =>
    have q : (Option.map kk none) = none := rfl
    rw [if_pos q]; exact h1 rfl
  | some i =>
    have q : ¬ (Option.map kk (some i)) = none := by intro q; cases q
    rw [if_neg q]; exact h2 i rfl
theorem so_end {G : Nat → MM Int32} {z : CM Int32} (h : So am k (G am.1) z) : So am k (mb (wc 12 (some am.1) G) fun v => mr v) (cb z fun v => cr v) := fun S v S' e b1 b2 h0 hR => by
  have e0 : z S = some (v, S') := by
    unfold cb at e
    cases hz : z S with
    | none => rw [hz] at e; cases e
    | some q => rw [hz] at e; exact e
  obtain ⟨am', h', c1, c2, e1, e2, r, f, l⟩ := h S v S' e0 b1 b2 h0 hR
  refine ⟨am', h', c1, c2, ?_, e2, r, f, l⟩
  have hc : ce h0 am.1 = cel am S (5, 0) := hR.at (q := (5, 0)) rfl
  have hw : wc 12 (some am.1) G h0 = some (v, h') := by
    unfold wc
    simp only [hc]
    exact (if_pos rfl).trans e1
  rw [mb_s hw]
  rfl
end MKE
