/-! ===== a Book is kept ===== -/
def amS (am : AM) (B : Nat) (e : va_E) : AM := (am.1, aRo am, aPl am, aBo am, aLe am, aCo am, aSt am, (fun a => if a = B then some e else aSp am a))
def kp (k : Int32 → Nat × Nat) (a b : Nat) : Int32 → Nat × Nat := fun v => ((k v).1 + a, (k v).2 + b)
section MKG
variable {α β γ δ : Type} {am : AM} {L : Nat} {k : Int32 → Nat × Nat}
theorem RC.spare {b1 b2 : Nat} {S : CS} {h : AH} (hR : RC am b1 b2 S h) (e : va_E) (N : Nat) : RC (amS am h.1 e) (b1 + 1) (b2 + N) S (hn h N e) ∧ FrC am h (hn h N e) ∧ am.1 + 79 ≤ h.1 := by
  obtain ⟨own, v, cap, gr, fb, q1, hT, o1, o2, v1, v2, v3, hst, r1, r2, r3, r4, r5, r6, r7, hW⟩ := hR
  obtain ⟨z, t1, t2, t3, t4, t5, t6, t7, t8, t9⟩ := hT
  have ol : ∀ a, a < h.1 → ce (hn h N e) a = ce h a := fun a ha => by rw [ce_hn, if_neg (by omega)]
  have n0 : ∀ a, a < h.1 → (if a = h.1 then ((70, 0) : Nat × Nat) else own a) = own a := fun a ha => if_neg (by omega)
  have f1 : (hn h N e).1 = h.1 + 1 := rfl
  have f2 : (hn h N e).2.1 = h.2.1 + N := rfl
  refine ⟨⟨fun a => if a = h.1 then (70, 0) else own a, v, cap, gr, fb, fun q hq => ?_, ⟨z, ?_, t2, ?_, t4, t5, t6, t7, t8, t9⟩, ?_, ?_, by omega, v2, v3, fun i hi => ?_, by omega, by omega, ?_, r4, r5, ?_, fun a e' he => ?_, hW⟩, ⟨by omega, rfl, fun a ha => ol a (by omega)⟩, r3⟩
  · obtain ⟨c1, c2, c3, c4, c5⟩ := q1 q hq
    exact ⟨(ol _ c3).trans c1, (n0 _ c3).trans c2, Nat.lt_succ_of_lt c3, c4, c5⟩
  · exact (ol _ (show am.1 + 42 < h.1 by omega)).trans t1
  · exact (ol _ v1).trans t3
  · exact (n0 _ (show am.1 + 42 < h.1 by omega)).trans o1
  · exact (n0 _ v1).trans o2
  · obtain ⟨c, w, j0, s1, s2, s8, s9, s3, s4, s5, cc, t, f, rest, u1, u2, u3, u4⟩ := hst i hi
    exact ⟨c, w, j0, (n0 _ s4).trans s1, (n0 _ s5).trans s2, s8, s9, s3, Nat.lt_succ_of_lt s4, Nat.lt_succ_of_lt s5, cc, t, f, rest, (ol _ s4).trans u1, u2, (ol _ s5).trans u3, u4⟩
  · show am.1 + 79 ≤ h.1 + 1
    omega
  · exact r6.fr rfl (fun a ha => ol a (by omega))
  · by_cases h9 : a = h.1
    · have he : (if a = h.1 then some e else aSp am a) = some e' := he
      rw [if_pos h9] at he
      cases he
      exact ⟨by rw [ce_hn, if_pos h9], if_pos h9, by omega⟩
    · have he : (if a = h.1 then some e else aSp am a) = some e' := he
      rw [if_neg h9] at he
      obtain ⟨x1, x2, x3⟩ := r7 a e' he
      exact ⟨(ol _ x3).trans x1, (n0 _ x3).trans x2, by omega⟩
theorem so_spare {ci N : Nat} {fs : List Value} {F : Option Nat → MM Int32} {c : CM Int32} (h2 : ∀ B, am.1 + 79 ≤ B → So (amS am B (.inr (ci, fs))) k (F (some B)) c) : So am (kp k 1 N) (mb (nO ci N fs) F) c := fun S v S' e b1 b2 h hR => by
  obtain ⟨r1, f1, h79⟩ := hR.spare (.inr (ci, fs)) N
  obtain ⟨am', h', c1, c2, e1, e2, r, f, l1, l2⟩ := h2 h.1 h79 S v S' e _ _ _ r1
  refine ⟨am', h', c1 + 1, c2 + N, ?_, e2, ?_, f1.trans f, by show c1 + 1 ≤ (k v).1 + 1; omega, by show c2 + N ≤ (k v).2 + N; omega⟩
  · have e0 : nO ci N fs h = some (some h.1, hn h N (.inr (ci, fs))) := rfl
    rw [mb_s e0]; exact e1
  · rw [show b1 + (c1 + 1) = b1 + 1 + c1 by omega, show b2 + (c2 + N) = b2 + N + c2 by omega]; exact r
theorem so_sa {y : MM (Option Nat)} {z : CM Nat} {F : Option Nat → MM Int32} {f : Nat → CM Int32} (h1 : Sa am L y z) (h2 : ∀ a s, So (amT am s a) k (F (some (aSt (amT am s a) s))) (f s)) : So am (kp k 2 (4 + L)) (mb y F) (cb z f) := fun S v S' e b1 b2 h hR => by
  unfold cb at e
  cases hz : z S with
  | none => rw [hz] at e; cases e
  | some q =>
    rw [hz] at e
    obtain ⟨a, len, h1', e1, r1, f1, l1, l2⟩ := h1 S q.1 q.2 hz b1 b2 h hR
    obtain ⟨am', h', c1, c2, e2, e3, r, f, l3, l4⟩ := h2 a q.1 q.2 v S' e _ _ _ r1
    have ea : aSt (amT am q.1 a) q.1 = a := if_pos rfl
    rw [ea] at e2
    refine ⟨am', h', c1 + 2, c2 + (4 + len), by rw [mb_s e1]; exact e2, e3, ?_, f1.trans f, by show c1 + 2 ≤ (k v).1 + 2; omega, by show c2 + (4 + len) ≤ (k v).2 + (4 + L); omega⟩
    rw [show b1 + (c1 + 2) = b1 + 2 + c1 by omega, show b2 + (c2 + (4 + len)) = b2 + 4 + len + c2 by omega]; exact r
theorem so_bk {B s : Nat} {F : Unit → MM Int32} {f : Nat → CM Int32} (hB : aSp am B = some (.inr (2, [.null, .null, .null, .null, .null, .null, .null]))) (hB9 : am.1 + 79 ≤ B) (h2 : ∀ b base, So (amB am b B base) k (F ()) (f b)) : So am (kp k 14 4312) (mb (wn (some B) fun t => X0_init t (some (aPl am 0)) (some (aSt am s))) F) (cb (cNB s) fun b => cb (C0_init2 b) fun _ => f b) := fun S v S' e b1 b2 h hR => by
  unfold cb cNB at e
  by_cases hq : zB S ≤ 24 ∧ s < zT S
  · rw [if_pos hq] at e
    obtain ⟨h1, e1, r1, f1⟩ := bk_start hR hq.1 hB hB9 hq.2 (some (aPl am 0))
    have e : cb (C0_init2 (zB S)) (fun _ => f (zB S)) (uB S s) = some (v, S') := e
    unfold cb at e
    cases hz : C0_init2 (zB S) (uB S s) with
    | none => rw [hz] at e; cases e
    | some q =>
      rw [hz] at e
      have ebo : aBo (amB am (zB S) B h.1) (zB S) = B := if_pos rfl
      have epl : aPl (amB am (zB S) B h.1) 0 = aPl am 0 := amB_pl (by omega)
      obtain ⟨h2', e2, r2, f2⟩ := u_X0_init2 (am := amB am (zB S) B h.1) (b := zB S) (uB S s) q.1 q.2 hz _ _ h1 r1
      rw [ebo, epl] at e2
      obtain ⟨am', h', c1, c2, e3, e4, r, f3, l3, l4⟩ := h2 (zB S) h.1 q.2 v S' e _ _ _ r2
      refine ⟨am', h', c1 + 14, c2 + 4312, ?_, e4, ?_, f1.trans (FrC.trans f2 f3), by show c1 + 14 ≤ (k v).1 + 14; omega, by show c2 + 4312 ≤ (k v).2 + 4312; omega⟩
      · have e5 : wn (some B) (fun t => X0_init t (some (aPl am 0)) (some (aSt am s))) h = some ((), h2') := by
          rw [wn_s, e1, e2]
        rw [mb_s e5]
        exact e3
      · rw [show b1 + (c1 + 14) = b1 + 14 + c1 by omega, show b2 + (c2 + 4312) = b2 + 4312 + c2 by omega]; exact r
  · rw [if_neg hq] at e
    cases e
theorem so_mono {k k' : Int32 → Nat × Nat} {x : MM Int32} {c : CM Int32} (h : So am k x c) (hk : ∀ v, (k v).1 ≤ (k' v).1 ∧ (k v).2 ≤ (k' v).2) : So am k' x c := fun S v S' e b1 b2 h0 hR => by
  obtain ⟨am', h', c1, c2, e1, e2, r, f, l1, l2⟩ := h S v S' e b1 b2 h0 hR
  exact ⟨am', h', c1, c2, e1, e2, r, f, Nat.le_trans l1 (hk v).1, Nat.le_trans l2 (hk v).2⟩
def Na (c : CM Int32) : Prop := ∀ (S : CS) (v : Int32) (S' : CS), c S = some (v, S') → v ≠ -9
theorem na_cb {z : CM γ} {f : γ → CM Int32} (h : ∀ a, Na (f a)) : Na (cb z f) := fun S v S' e => by
  unfold cb at e
  cases hz : z S with
  | none => rw [hz] at e; cases e
  | some q => rw [hz] at e; exact h q.1 q.2 v S' e
theorem na_9 {a : Int32} : Na (cg9 a) := fun S v S' e => by
  unfold cg9 at e
  split at e
  · cases e
  · rename_i h; cases e; exact h
theorem sc_9 {a : Int32} : Sc am id (mr a) (cg9 a) := by
  unfold cg9
  by_cases h : a = -9
  · rw [if_pos h]; exact sc_mf
  · rw [if_neg h]; exact sc_ret (a := a)
theorem so_ne {k : Int32 → Nat × Nat} {K : Nat × Nat} {x : MM Int32} {c : CM Int32} (hk : ∀ v, (k v).1 ≤ K.1 ∧ (k v).2 ≤ K.2) (hn : Na c) (h : So am k x c) : So am (fun v => if v = -9 then (0, 0) else K) x c := fun S v S' e b1 b2 h0 hR => by
  obtain ⟨am', h', c1, c2, e1, e2, r, f, l1, l2⟩ := h S v S' e b1 b2 h0 hR
  refine ⟨am', h', c1, c2, e1, e2, r, f, ?_, ?_⟩
  · show c1 ≤ (if v = -9 then (0, 0) else K).1
    rw [if_neg (hn S v S' e)]
    exact Nat.le_trans l1 (hk v).1
  · show c2 ≤ (if v = -9 then (0, 0) else K).2
    rw [if_neg (hn S v S' e)]
    exact Nat.le_trans l2 (hk v).2
theorem sa_w {q : Nat × Nat} {ci a : Nat} {G : Nat → MM (Option Nat)} {z : CM Nat} (hk : ∀ S, kx S q = true) (ha : adr am q = a) (he : ∀ S, ∃ es, cel am S q = .inr (ci, es)) (h1 : Sa am L (G a) z) : Sa am L (wc ci (some a) G) z := fun S v S' e b1 b2 h hR => by
  obtain ⟨a2, len, h', e1, r⟩ := h1 S v S' e b1 b2 h hR
  refine ⟨a2, len, h', ?_, r⟩
  obtain ⟨es, e2⟩ := he S
  have hc := hR.at (hk S)
  rw [ha, e2] at hc
  unfold wc
  simp only [hc]
  rw [if_pos (okc_self _)]
  exact e1
theorem aNB_f (S : CS) (b1 b2 : Nat) (h : AH) (hR : RC am b1 b2 S h) : aN (some (am.1 + 44)) h = some (8, h) := by
  have hc : ce h (am.1 + 44) = cel am S (11, 0) := hR.at (q := (11, 0)) rfl
  unfold aN
  simp only [hc]
  rfl
theorem sc_sRBe {i : Int32} {b B : Nat} {x : MM β} {g : α → β} {F : Unit → MM β} {f : Unit → CM α} (hB : aBo am b = B) (h2 : Sc am g (F ()) (f ())) : Sc am g (mb (sR (some (am.1 + 44)) i (some B)) F) (cb (cSB i b) f) := by
  subst hB
  exact sc_sRB h2
theorem u_X11_closeBook (a1 : Int32) : So am (fun v => if v = -9 then (0, 0) else (17, 20707)) (X11_closeBook am.1 a1) (C11_closeBook a1) := by
  unfold X11_closeBook C11_closeBook
  refine so_rd (gR_f (q := (5, 0)) (b := am.1 + 1) (fun _ => rfl) rfl (fun _ => ⟨_, rfl, rfl⟩)) ?_
  refine so_cal (kk := id) (sc_w (q := (6, 0)) (fun _ => rfl) rfl (fun _ => ⟨_, rfl⟩) (u_X10_cutTo (0 : Int32))) fun _ => ?_
  refine so_ite ?_ (so_sc (sc_wc (q := (5, 0)) (k := id) (fun _ => rfl) rfl (fun _ => ⟨_, rfl⟩) (u_X11_refuse a1) fun v => sc_ret))
  refine so_cal (kk := id) (sc_g (t := 8) (i := 0) rfl (fun _ => ⟨_, rfl, rfl⟩)) fun v2 => ?_
  refine so_rd (gR_f (q := (5, 0)) (b := am.1 + 44) (fun _ => rfl) rfl (fun _ => ⟨_, rfl, rfl⟩)) ?_
  refine so_rd aNB_f ?_
  refine so_ite ?_ (so_sc (sc_wc (q := (5, 0)) (k := id) (fun _ => rfl) rfl (fun _ => ⟨_, rfl⟩) (u_X11_refuse (9 : Int32)) fun v => sc_ret))
  refine so_rd (gR_f (q := (5, 0)) (b := am.1 + 44) (fun _ => rfl) rfl (fun _ => ⟨_, rfl, rfl⟩)) ?_
  refine so_cal (kk := id) (sc_g (t := 8) (i := 0) rfl (fun _ => ⟨_, rfl, rfl⟩)) fun v6 => ?_
  refine so_ne (k := kp (kp (kp (fun _ => (0, 0)) 14 4312) 2 (4 + 16384)) 1 7) (fun v => ⟨by show 0 + 14 + 2 + 1 ≤ 17; omega, by show 0 + 4312 + (4 + 16384) + 7 ≤ 20707; omega⟩) (na_cb fun _ => na_cb fun _ => na_cb fun _ => na_cb fun _ => na_cb fun _ => na_cb fun _ => na_cb fun _ => na_9) ?_
  refine so_spare fun B hB79 => ?_
  refine so_rd (gR_f (am := amS am B _) (q := (5, 0)) (b := aPl am 0) (fun _ => rfl) rfl (fun _ => ⟨_, rfl, rfl⟩)) ?_
  refine so_rd (gR_f (am := amS am B _) (q := (5, 0)) (b := am.1 + 41) (fun _ => rfl) rfl (fun _ => ⟨_, rfl, rfl⟩)) ?_
  refine so_rd (gR_f (am := amS am B _) (q := (5, 0)) (b := aPl am 0) (fun _ => rfl) rfl (fun _ => ⟨_, rfl, rfl⟩)) ?_
  refine so_sa (am := amS am B _) (L := 16384) (sa_w (am := amS am B _) (q := (13, 0)) (fun _ => rfl) rfl (fun _ => ⟨_, rfl⟩) (u_X9_formulaText (am := amS am B _) 0)) fun a s => ?_
  refine so_bk (am := amT (amS am B _) s a) (if_pos rfl) hB79 fun b base => ?_
  refine so_sc ?_
  refine sc_sRBe (am := amB (amT (amS am B _) s a) b B base) (x := mr 0) (if_pos rfl) ?_
  refine sc_gI (am := amB (amT (amS am B _) s a) b B base) (t := 8) (i := 0) rfl (fun _ => ⟨_, rfl, rfl⟩) fun v12 => ?_
  refine sc_pI (am := amB (amT (amS am B _) s a) b B base) (t := 8) (i := 0) (by decide) rfl (fun _ => ⟨_, rfl, Nat.le_of_ble_eq_true rfl, celp8⟩) ?_
  refine sc_wc (am := amB (amT (amS am B _) s a) b B base) (q := (5, 0)) (k := id) (fun _ => rfl) rfl (fun _ => ⟨_, rfl⟩) (u_X11_answer (am := amB (amT (amS am B _) s a) b B base) v12) fun v => ?_
  exact sc_9
end MKG
