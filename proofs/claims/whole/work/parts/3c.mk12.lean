/-! ===== a Copy is kept ===== -/
def C11_keepCopy (n : Int32) (b : Nat) : CM Int32 :=
  cb (cG 9 0) fun v1 =>
  if (16 : Int32) ≤ v1 then (cb (C11_refuse (9 : Int32)) fun v => cr v) else (
  cb (cNC n b 4) fun c =>
  cb (C2_init2 c) fun _ =>
  cb (C1_collate c) fun _ =>
  cb (C9_noteText c) fun s =>
  cb (cPN c s) fun _ =>
  cb (cG 9 0) fun v10 =>
  cb (cSC v10 c) fun _ =>
  cb (cG 9 0) fun v11 =>
  cb (cP 9 0 (v11 + (1 : Int32))) fun _ =>
  cb (C11_answer v11) fun v =>
  cg9 v)
section MKL
variable {α β γ δ : Type} {am : AM} {x : MM β} {g : α → β} {k : Int32 → Nat × Nat} {n : Int32}
theorem RC.wf {b1 b2 : Nat} {S : CS} {h : AH} (hR : RC am b1 b2 S h) : WF S := by
  obtain ⟨own, v, cap, gr, fb, -, -, -, -, -, -, -, -, -, -, -, -, -, -, -, r8⟩ := hR
  exact r8
theorem sc_sRC {i : Int32} {b C : Nat} {F : Unit → MM β} {f : Unit → CM α} (hC : aCo am b = C) (h2 : Sc am g (F ()) (f ())) : Sc am g (mb (sR (some (am.1 + 45)) i (some C)) F) (cb (cSC i b) f) :=
  sc_cal (k := id) (fun S u S' e b1 b2 h hR => by
    subst hC
    unfold cSC at e
    split at e
    · rename_i hq
      obtain ⟨hi, hb⟩ := hq
      cases e
      have hc : ce h (am.1 + 45) = cel am S (12, 0) := hR.at (q := (12, 0)) rfl
      have hc : ce h (am.1 + 45) = .inl (4, 16, .inr (.inr (.inr (.inr (fun i => (zd S i).map (aCo am)))))) := hc
      have hc2 : ce h (aCo am b) = cel am S (4, b) := hR.at (q := (4, b)) (decide_eq_true hb)
      obtain ⟨r, f2⟩ := hR.put (q := (12, 0)) (S' := (S.1, S.2.1, S.2.2.1, S.2.2.2.1, S.2.2.2.2.1, (zb S, (fun j => if j = i.toNatClampNeg then some b else zd S j)), S.2.2.2.2.2.2)) rfl (fun _ => rfl) (fun q hx hq => by
        obtain ⟨c, j⟩ := q
        have hc12 : c ≠ 12 := fun hc => by
          subst hc
          have hj : j = 0 := of_decide_eq_true hx
          exact hq (by rw [hj])
        unfold cel
        by_cases h14 : 14 ≤ c
        · rw [if_pos h14, if_pos h14]; rfl
        · rw [if_neg h14, if_neg h14]
          simp only
          rw [if_neg hc12, if_neg hc12]
          rfl) ⟨rfl, rfl, rfl⟩ (fun w => ⟨w.1, w.2.1, w.2.2.1, fun j c hj => by
            have hj : (if j = i.toNatClampNeg then some b else zd S j) = some c := hj
            by_cases h9 : j = i.toNatClampNeg
            · rw [if_pos h9] at hj; cases hj; exact hb
            · rw [if_neg h9] at hj; exact w.2.2.2 j c hj⟩)
      refine ⟨_, ?_, r, f2⟩
      have e9 : cel am (S.1, S.2.1, S.2.2.1, S.2.2.2.1, S.2.2.2.2.1, (zb S, (fun j => if j = i.toNatClampNeg then some b else zd S j)), S.2.2.2.2.2.2) (12, 0) = .inl (4, 16, .inr (.inr (.inr (.inr (va_up (fun i => (zd S i).map (aCo am)) i.toNatClampNeg (some (aCo am b))))))) := by
        have : (fun j => (if j = i.toNatClampNeg then some b else zd S j).map (aCo am)) = va_up (fun i => (zd S i).map (aCo am)) i.toNatClampNeg (some (aCo am b)) := funext fun j => by
          unfold va_up
          split <;> rfl
        show Sum.inl (4, 16, Sum.inr (Sum.inr (Sum.inr (Sum.inr (fun j => (if j = i.toNatClampNeg then some b else zd S j).map (aCo am)))))) = _
        rw [this]
      rw [e9]
      have hc2 : ce h (aCo am b) = .inr (4, _) := hc2
      unfold sR
      simp only [hc, hc2]
      exact if_pos ⟨Or.inr trivial, rfl, hi⟩
    · cases e) (fun _ => h2)
theorem sc_pN {c s C : Nat} {F : Unit → MM β} {f : Unit → CM α} (hC : aCo am c = C) (h2 : Sc am g (F ()) (f ())) : Sc am g (mb (pR 4 (some C) 7 (some (aSt am s))) F) (cb (cPN c s) f) :=
  sc_cal (k := id) (fun S u S' e b1 b2 h hR => by
    subst hC
    unfold cPN at e
    split at e
    · rename_i hq
      obtain ⟨hc9, hs9⟩ := hq
      cases e
      have hc : ce h (aCo am c) = cel am S (4, c) := hR.at (q := (4, c)) (decide_eq_true hc9)
      obtain ⟨r, f2⟩ := hR.put (q := (4, c)) (S' := (S.1, S.2.1, S.2.2.1, S.2.2.2.1, S.2.2.2.2.1, S.2.2.2.2.2.1, S.2.2.2.2.2.2.1, S.2.2.2.2.2.2.2.1, (zw S, zr S, fun i => if i = c then s else zn S i))) (decide_eq_true hc9) (fun _ => rfl) (fun q hx hq => by
        obtain ⟨d, j⟩ := q
        unfold cel
        by_cases h14 : 14 ≤ d
        · rw [if_pos h14, if_pos h14]; rfl
        · rw [if_neg h14, if_neg h14]
          simp only
          by_cases h4 : d = 4
          · subst h4
            have hj : j ≠ c := fun hj => hq (by rw [hj])
            have e9 : (if j = c then s else zn S j) = zn S j := if_neg hj
            rw [if_neg (by decide), if_neg (by decide), if_neg (by decide), if_pos rfl, if_neg (by decide), if_neg (by decide), if_neg (by decide), if_pos rfl]
            show Sum.inr (4, [_, _, _, _, _, _, _, Value.ref (aSt am (if j = c then s else zn S j))]) = _
            rw [e9]
            rfl
          · rw [if_neg h4, if_neg h4]
            rfl) ⟨rfl, rfl, rfl⟩ (fun w => ⟨w.1, fun j hj => by
            show (if j = c then s else zn S j) < zT S ∧ zr S j < zB S
            refine ⟨?_, (w.2.1 j hj).2⟩
            split
            · exact hs9
            · exact (w.2.1 j hj).1, w.2.2⟩)
      refine ⟨_, ?_, r, f2⟩
      have e9 : cel am (S.1, S.2.1, S.2.2.1, S.2.2.2.1, S.2.2.2.2.1, S.2.2.2.2.2.1, S.2.2.2.2.2.2.1, S.2.2.2.2.2.2.2.1, (zw S, zr S, fun i => if i = c then s else zn S i)) (4, c) = .inr (4, [.int (zs S 12 c), .ref (aBo am (zr S c)), .ref (aRo am (200 + 5 * c)), .ref (aRo am (201 + 5 * c)), .ref (aRo am (202 + 5 * c)), .ref (aRo am (203 + 5 * c)), .ref (aRo am (204 + 5 * c)), .ref (aSt am s)]) := by
        have e8 : (if c = c then s else zn S c) = s := if_pos rfl
        show Sum.inr (4, [_, _, _, _, _, _, _, Value.ref (aSt am (if c = c then s else zn S c))]) = _
        rw [e8]
        rfl
      rw [e9]
      have hc : ce h (aCo am c) = .inr (4, [.int (zs S 12 c), .ref (aBo am (zr S c)), .ref (aRo am (200 + 5 * c)), .ref (aRo am (201 + 5 * c)), .ref (aRo am (202 + 5 * c)), .ref (aRo am (203 + 5 * c)), .ref (aRo am (204 + 5 * c)), .ref (aSt am (zn S c))]) := hc
      unfold pR pV
      simp only [hc]
      rfl
    · cases e) (fun _ => h2)
theorem so_cp {C b : Nat} {F : Unit → MM Int32} {f : Nat → CM Int32} (hC : aSp am C = some (.inr (4, [.int 0, .null, .null, .null, .null, .null, .null, .null]))) (hC9 : am.1 + 79 ≤ C) (h2 : ∀ c base, So (amC am c C base) k (F ()) (f c)) : So am (kp k 10 2010) (mb (wn (some C) fun t => X2_init t n (some (aBo am b)) (some (aRo am 12))) F) (cb (cNC n b 4) fun c => cb (C2_init2 c) fun _ => f c) := fun S v S' e b1 b2 h hR => by
  unfold cb cNC at e
  by_cases hq : zB S ≤ 24 ∧ b < zB S ∧ 4 < zT S
  · rw [if_pos hq] at e
    obtain ⟨h1, e1, r1, f1⟩ := cp_start hR hq.1 hC hC9 hq.2.1 n (some (aRo am 12))
    have e : cb (C2_init2 (zC S)) (fun _ => f (zC S)) (uC S n b 4) = some (v, S') := e
    unfold cb at e
    cases hz : C2_init2 (zC S) (uC S n b 4) with
    | none => rw [hz] at e; cases e
    | some q =>
      rw [hz] at e
      have eco : aCo (amC am (zC S) C h.1) (zC S) = C := if_pos rfl
      have ero : aRo (amC am (zC S) C h.1) 12 = aRo am 12 := amC_ro (by omega)
      obtain ⟨h2', e2, r2, f2⟩ := u_X2_init2 (am := amC am (zC S) C h.1) (c := zC S) (uC S n b 4) q.1 q.2 hz _ _ h1 r1
      rw [eco, ero] at e2
      obtain ⟨am', h', c1, c2, e3, e4, r, f3, l3, l4⟩ := h2 (zC S) h.1 q.2 v S' e _ _ _ r2
      refine ⟨am', h', c1 + 10, c2 + 2010, ?_, e4, ?_, f1.trans (FrC.trans f2 f3), by show c1 + 10 ≤ (k v).1 + 10; omega, by show c2 + 2010 ≤ (k v).2 + 2010; omega⟩
      · have e5 : wn (some C) (fun t => X2_init t n (some (aBo am b)) (some (aRo am 12))) h = some ((), h2') := by
          rw [wn_s, e1, e2]
        rw [mb_s e5]
        exact e3
      · rw [show b1 + (c1 + 10) = b1 + 10 + c1 by omega, show b2 + (c2 + 2010) = b2 + 2010 + c2 by omega]; exact r
  · rw [if_neg hq] at e
    cases e
end MKL
