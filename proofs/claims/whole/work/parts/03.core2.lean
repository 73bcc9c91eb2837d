section SA
variable {α β : Type} {G : GG} {y : MethodName} {cc : ByteArray} {mL : Nat} {ret : Option FieldType} {F Lr : Nat} {cvt : α → Option Value} {x : MM α} {pc pc' : Nat} {L L' : List (Option Value)} {st : List Value}
variable {p : Program} {l : Launch} {e : Env} {R : Room} {s : State} {m : MethodId} {args : Array Value} {below : List Frame} {meth : Method} {c : Code} {H : Heap} {locs : List Loc} {cells slots : Nat} {Q : State → Prop} {ls : Array Slot} {h : AH}
theorem ar_of {a t n : Nat} {g : (Nat → Int32) ⊕ (Nat → Int64) ⊕ (Nat → UInt32) ⊕ (Nat → UInt64) ⊕ (Nat → Option Nat)} (hR : RH G h H) (hC : CX G y cc mL ret p s m args meth c) (he : ce h a = .inl (t, n, g)) (ht : t < 5) : G.1 ≤ a ∧ a < h.1 ∧ va_at G.2.1 vwCl (a, .inl (G.2.2.1 t, n, g)) H := by
  have hl : a < h.1 := hR.lo (by rw [he]; intro q; cases q)
  by_cases hb : a < G.1
  · have h1 := hC.2.2.2.2.2.2.2.2.2.2.2.2.2 a hb
    unfold KR at h1
    rw [← hR.2.2.2.1 a hb, he] at h1
    cases g with
    | inl f =>
      rcases h1 with ⟨q, -⟩ | ⟨q, -⟩
      · have q : t = 10 := q
        omega
      · have q : t = 11 := q
        omega
    | inr g => exact h1.elim
  · have hb' := Nat.not_lt.mp hb
    have h1 := (hR.2.2.1 a hb' hl).1
    rw [he] at h1
    exact ⟨hb', hl, h1⟩
theorem kt_of {a t n : Nat} {f : Nat → Int32} (hR : RH G h H) (hC : CX G y cc mL ret p s m args meth c) (he : ce h a = .inl (t, n, .inl f)) (ht : 5 ≤ t) : (t = 10 ∧ va_T .int a n (fun j => .int (f j)) (gA G) s s.heap) ∨ (t = 11 ∧ (∀ j, fits .byte (.int (f j)) = true) ∧ va_T .byte a n (fun j => .int (f j)) (gA G) s s.heap) := by
  have hl : a < h.1 := hR.lo (by rw [he]; intro q; cases q)
  by_cases hb : a < G.1
  · have h1 := hC.2.2.2.2.2.2.2.2.2.2.2.2.2 a hb
    unfold KR at h1
    rw [← hR.2.2.2.1 a hb, he] at h1
    exact h1
  · have h1 := (hR.2.2.1 a (Nat.not_lt.mp hb) hl).2
    rw [he] at h1
    have h1 : t < 5 := h1
    omega
theorem one_P {D : va_G} {q : Nat × va_E} (h1 : va_at D vwCl q H) : va_P D vwCl [q] H := fun j w hj => by
  have hz : j < 1 := (List.getElem?_eq_some_iff.mp hj).1
  rw [show j = 0 by omega] at hj
  cases hj
  exact h1
theorem RH.put {a : Nat} {e1 : va_E} {H1 : Heap} (hR : RH G h H) (ha : G.1 ≤ a) (hl : a < h.1) (h1 : va_at G.2.1 vwCl (a, cv G.2.2.1 e1) H1) (hd : dv e1) (z : H1.size = H.size) (oq : ∀ q : Nat, q ≠ a → H1[q]? = H[q]?) : RH G (hs h a e1) H1 := by
  obtain ⟨r1, r2, r3, r4, r5, r6⟩ := hR
  refine ⟨r1, z.trans r2, fun b hb hb2 => ?_, fun b hb => ?_, fun b hb => ?_, r6⟩
  · rw [ce_hs]
    by_cases hab : b = a
    · rw [if_pos hab, hab]; exact ⟨h1, hd⟩
    · rw [if_neg hab]; exact ⟨(r3 b hb hb2).1.kept (oq b hab), (r3 b hb hb2).2⟩
  · rw [ce_hs, if_neg (by omega)]; exact r4 b hb
  · have hb : h.1 ≤ b := hb
    rw [ce_hs, if_neg (by omega)]; exact r5 b hb
theorem RH.new {n : Nat} {e1 : va_E} {H1 : Heap} (hR : RH G h H) (h1 : va_at G.2.1 vwCl (h.1, cv G.2.2.1 e1) H1) (hd : dv e1) (z : H1.size = h.1 + 1) (oq : ∀ q : Nat, q < h.1 → H1[q]? = H[q]?) : RH G (hn h n e1) H1 := by
  obtain ⟨r1, r2, r3, r4, r5, r6⟩ := hR
  refine ⟨Nat.le_succ_of_le r1, z, fun b hb hb2 => ?_, fun b hb => ?_, fun b hb => ?_, r6⟩
  · rw [ce_hn]
    by_cases hab : b = h.1
    · rw [if_pos hab, hab]; exact ⟨h1, hd⟩
    · have hb2 : b < h.1 + 1 := hb2
      rw [if_neg hab]; exact ⟨(r3 b hb (by omega)).1.kept (oq b (by omega)), (r3 b hb (by omega)).2⟩
  · rw [ce_hn, if_neg (by omega)]; exact r4 b hb
  · have hb : h.1 + 1 ≤ b := hb
    rw [ce_hn, if_neg (by omega)]; exact r5 b (by omega)
theorem S_new {H1 : Heap} (hR : RH G h H) (hS : va_S (gA G) s.heap H locs) (z : H1.size = h.1 + 1) (oq : ∀ q : Nat, q < h.1 → H1[q]? = H[q]?) : va_S (gA G) s.heap H1 locs := by
  have e := hR.2.1
  exact ⟨by have := hS.1; omega, fun q h1 h2 => by rw [oq q (by have := hS.1; omega)]; exact hS.2.1 q h1 h2, hS.2.2⟩
theorem gT_at (G : GG) (t : Nat) (h : t < 5) : ∃ ty, (gT G)[t]? = some (G.2.2.1 t, ty) := by
  rcases (show t = 0 ∨ t = 1 ∨ t = 2 ∨ t = 3 ∨ t = 4 by omega) with e | e | e | e | e <;> (subst e; exact ⟨_, rfl⟩)
theorem sn_aI {r : Option Nat} {i : Int32} {f : Int32 → MM α} (hd : decode cc pc = .ok (.iaload, 1)) (hp : pc + 1 = pc') (kk : ∀ v, Sn G y cc mL ret F Lr cvt (f v) pc' L (.int v :: st)) : Sn G y cc mL ret F Lr cvt (mb (aI r i) f) pc L (.int i :: va_rf r :: st) := by
  subst hp
  refine sn_rd (st2 := fun v => .int v :: st) (fun h v h' hq => ?_) kk
  unfold aI at hq
  split at hq
  · cases hq
  · rename_i a
    split at hq
    · rename_i t n g he
      split at hq
      · rename_i ht
        cases hq
        refine ⟨rfl, fun p l e R s m args below meth c H locs cells slots ls Q hC hR hS kw => ?_⟩
        have hB := hC.2.2.2.2.2.2.2.2
        rcases ht.1 with t0 | t0
        · subst t0
          exact va_iald hC.1 hC.2.1 hB.1 (one_P (ar_of hR hC he (by decide)).2.2) 0 0 rfl rfl ht.2 hd kw
        · subst t0
          rcases kt_of hR hC he (by decide) with ⟨-, q⟩ | ⟨q, -⟩
          · exact va_ti hC.1 hC.2.1 q hS ht.2 rfl hd kw
          · cases q
      · cases hq
    · cases hq
theorem sn_aB {r : Option Nat} {i : Int32} {f : Int32 → MM α} (hd : decode cc pc = .ok (.baload, 1)) (hp : pc + 1 = pc') (kk : ∀ v, Sn G y cc mL ret F Lr cvt (f v) pc' L (.int v :: st)) : Sn G y cc mL ret F Lr cvt (mb (aB r i) f) pc L (.int i :: va_rf r :: st) := by
  subst hp
  refine sn_rd (st2 := fun v => .int v :: st) (fun h v h' hq => ?_) kk
  unfold aB at hq
  split at hq
  · cases hq
  · rename_i a
    split at hq
    · rename_i t n g he
      split at hq
      · rename_i ht
        cases hq
        refine ⟨rfl, fun p l e R s m args below meth c H locs cells slots ls Q hC hR hS kw => ?_⟩
        have hB := hC.2.2.2.2.2.2.2.2
        rcases ht.1 with t0 | t0 | t0
        · subst t0
          exact va_bald hC.1 hC.2.1 hB.1 (one_P (ar_of hR hC he (by decide)).2.2) 0 1 rfl rfl ht.2 hd kw
        · subst t0
          exact va_zald hC.1 hC.2.1 hB.1 (one_P (ar_of hR hC he (by decide)).2.2) 0 2 rfl rfl ht.2 hd kw
        · subst t0
          rcases kt_of hR hC he (by decide) with ⟨q, -⟩ | ⟨-, -, q⟩
          · cases q
          · exact va_tb hC.1 hC.2.1 q hS ht.2 rfl hd kw
      · cases hq
    · cases hq
theorem sn_aR {r : Option Nat} {i : Int32} {f : Option Nat → MM α} (hd : decode cc pc = .ok (.aaload, 1)) (hp : pc + 1 = pc') (kk : ∀ v, Sn G y cc mL ret F Lr cvt (f v) pc' L (va_rf v :: st)) : Sn G y cc mL ret F Lr cvt (mb (aR r i) f) pc L (.int i :: va_rf r :: st) := by
  subst hp
  refine sn_rd (st2 := fun v => va_rf v :: st) (fun h v h' hq => ?_) kk
  unfold aR at hq
  split at hq
  · cases hq
  · rename_i a
    split at hq
    · rename_i t n g he
      split at hq
      · rename_i ht
        cases hq
        refine ⟨rfl, fun p l e R s m args below meth c H locs cells slots ls Q hC hR hS kw => ?_⟩
        have hB := hC.2.2.2.2.2.2.2.2
        rcases ht.1 with t0 | t0
        · subst t0
          exact va_aldq hC.1 hC.2.1 hB.1 (one_P (ar_of hR hC he (by decide)).2.2) 0 3 rfl rfl ht.2 hd kw
        · subst t0
          exact va_aldq hC.1 hC.2.1 hB.1 (one_P (ar_of hR hC he (by decide)).2.2) 0 4 rfl rfl ht.2 hd kw
      · cases hq
    · cases hq
theorem sn_aN {r : Option Nat} {f : Int32 → MM α} (hd : decode cc pc = .ok (.arraylength, 1)) (hp : pc + 1 = pc') (kk : ∀ v, Sn G y cc mL ret F Lr cvt (f v) pc' L (.int v :: st)) : Sn G y cc mL ret F Lr cvt (mb (aN r) f) pc L (va_rf r :: st) := by
  subst hp
  refine sn_rd (st2 := fun v => .int v :: st) (fun h v h' hq => ?_) kk
  unfold aN at hq
  split at hq
  · cases hq
  · rename_i a
    split at hq
    · rename_i w he
      split at hq
      · rename_i ht
        cases hq
        refine ⟨rfl, fun p l e R s m args below meth c H locs cells slots ls Q hC hR hS kw => ?_⟩
        have hB := hC.2.2.2.2.2.2.2.2
        obtain ⟨t, n, g⟩ := w
        by_cases h5 : t < 5
        · have hP := one_P (ar_of hR hC he h5).2.2
          obtain ⟨ty, ht⟩ := gT_at G t h5
          exact va_alen hC.1 hC.2.1 hB.1 hP 0 t rfl ht rfl hd kw
        · have hn : ∃ f, g = .inl f := by
            have hl : a < h.1 := hR.lo (by rw [he]; intro q; cases q)
            by_cases hb : a < G.1
            · have h1 := hB.2.2.2.2.2 a hb
              unfold KR at h1
              rw [← hR.2.2.2.1 a hb, he] at h1
              cases g with
              | inl f => exact ⟨f, rfl⟩
              | inr g => exact h1.elim
            · have h1 := (hR.2.2.1 a (Nat.not_lt.mp hb) hl).2
              rw [he] at h1
              exact absurd h1 h5
          obtain ⟨f, rfl⟩ := hn
          rcases kt_of hR hC he (Nat.not_lt.mp h5) with ⟨-, q⟩ | ⟨-, -, q⟩
          · exact va_tlen hC.1 hC.2.1 q hS rfl hd kw
          · exact va_tlen hC.1 hC.2.1 q hS rfl hd kw
      · cases hq
    · cases hq
theorem sn_dI {a b : Int32} {f : Int32 → MM α} (hd : decode cc pc = .ok (.idiv, 1)) (hp : pc + 1 = pc') (kk : ∀ v, Sn G y cc mL ret F Lr cvt (f v) pc' L (.int v :: st)) : Sn G y cc mL ret F Lr cvt (mb (dI a b) f) pc L (.int b :: .int a :: st) := by
  subst hp
  refine sn_rd (st2 := fun v => .int v :: st) (fun h v h' hq => ?_) kk
  unfold dI at hq
  split at hq
  · cases hq
  · rename_i hb
    cases hq
    exact ⟨rfl, fun p l e R s m args below meth c H locs cells slots ls Q hC hR hS kw => lv_idiv hC.1 hC.2.1 hd hb kw⟩
theorem sn_rI {a b : Int32} {f : Int32 → MM α} (hd : decode cc pc = .ok (.irem, 1)) (hp : pc + 1 = pc') (kk : ∀ v, Sn G y cc mL ret F Lr cvt (f v) pc' L (.int v :: st)) : Sn G y cc mL ret F Lr cvt (mb (rI a b) f) pc L (.int b :: .int a :: st) := by
  subst hp
  refine sn_rd (st2 := fun v => .int v :: st) (fun h v h' hq => ?_) kk
  unfold rI at hq
  split at hq
  · cases hq
  · rename_i hb
    cases hq
    exact ⟨rfl, fun p l e R s m args below meth c H locs cells slots ls Q hC hR hS kw => lv_irem hC.1 hC.2.1 hd hb kw⟩
/-- a number that is 0 or 1 (a truth value's place asks it) -/
theorem sn_nz {a : Int32} {f : Int32 → MM α} (kk : ∀ v, Sn G y cc mL ret F Lr cvt (f v) pc L (.int v :: st)) : Sn G y cc mL ret F Lr cvt (mb (nzI a) f) pc L (.int a :: st) := by
  refine fun h r h' e => ?_
  unfold mb nzI at e
  split at e
  · cases e
  · rename_i q hq
    split at hq
    · cases hq
      exact kk a h r h' e
    · cases hq
/-- text constants and static references -/
theorem sn_kS {i n : Nat} {tx : String} {f : Option Nat → MM α} (hm : (i, y.cls, n, tx) ∈ kS) (hd : decode cc pc = .ok (.ldc n, 2)) (hp : pc + 2 = pc') (kk : ∀ v, Sn G y cc mL ret F Lr cvt (f v) pc' L (va_rf v :: st)) : Sn G y cc mL ret F Lr cvt (mb (kR i) f) pc L st := by
  subst hp
  refine sn_rd (st2 := fun v => va_rf v :: st) (fun h v h' hq => ?_) kk
  unfold kR at hq
  cases hq
  refine ⟨rfl, fun p l e R s m args below meth c H locs cells slots ls Q hC hR hS kw => ?_⟩
  obtain ⟨a, ha, hk⟩ := hC.2.2.2.2.2.2.2.2.2.2.1 _ hm
  rw [hR.2.2.2.2.2] at kw
  have ha : G.2.2.2.2 i = some a := ha
  rw [ha] at kw
  exact va_ldcS hC.1 hC.2.1 hC.2.2.2.2.2.2.1 hk hd kw
theorem sn_kSw {i n : Nat} {tx : String} {f : Option Nat → MM α} (hm : (i, y.cls, n, tx) ∈ kS) (hd : decode cc pc = .ok (.ldc_w n, 3)) (hp : pc + 3 = pc') (kk : ∀ v, Sn G y cc mL ret F Lr cvt (f v) pc' L (va_rf v :: st)) : Sn G y cc mL ret F Lr cvt (mb (kR i) f) pc L st := by
  subst hp
  refine sn_rd (st2 := fun v => va_rf v :: st) (fun h v h' hq => ?_) kk
  unfold kR at hq
  cases hq
  refine ⟨rfl, fun p l e R s m args below meth c H locs cells slots ls Q hC hR hS kw => ?_⟩
  obtain ⟨a, ha, hk⟩ := hC.2.2.2.2.2.2.2.2.2.2.1 _ hm
  rw [hR.2.2.2.2.2] at kw
  have ha : G.2.2.2.2 i = some a := ha
  rw [ha] at kw
  intro T hT X
  obtain ⟨t, a1, b1⟩ := kw T hT X
  obtain ⟨k, cf, i', a', hk0, hcf, hcp, -, hr, hev'⟩ := Cond.stringRef_spec hC.2.2.2.2.2.2.1 hk.1
  cases hk.2.symm.trans hev'
  obtain ⟨k', hk', he⟩ := X.warmed.alike.2.2 _ _ hk0
  have hr' : k'.resolved[n]? = some (some (.string a)) := by
    rcases X.warmed.entry hk0 hk' n with h | ⟨h, -⟩
    · rw [h]; exact hr
    · rw [hr] at h; cases h
  refine ⟨t, ?_, b1⟩
  have hx := hC.1
  have hb := hC.2.1
  jvm_step X.here [hx, hb, hd, ldc_w.wp_string (e := e) (s := T) (f := F0 m pc ls st) X.here.top hk' (by rw [he]; exact hcf) hcp hr']
  exact a1
theorem sn_gsR {i n : Nat} {C nm d : String} {f : Option Nat → MM α} (hm : (i, C, nm, d) ∈ kQ) (hl : Cond.fieldLink y.cls n C nm d ∈ gtbl) (hd : decode cc pc = .ok (.getstatic n, 3)) (hp : pc + 3 = pc') (kk : ∀ v, Sn G y cc mL ret F Lr cvt (f v) pc' L (va_rf v :: st)) : Sn G y cc mL ret F Lr cvt (mb (kR i) f) pc L st := by
  subst hp
  refine sn_rd (st2 := fun v => va_rf v :: st) (fun h v h' hq => ?_) kk
  unfold kR at hq
  cases hq
  refine ⟨rfl, fun p l e R s m args below meth c H locs cells slots ls Q hC hR hS kw => ?_⟩
  have hk := hC.2.2.2.2.2.2.2.2.2.2.2.2.1 _ hm
  rw [hR.2.2.2.2.2] at kw
  exact va_gets hC.1 hC.2.1 hk hS hC.2.2.2.2.2.2.1 (hC.2.2.2.2.2.2.2.1 _ hl) (fun _ z => z) hd kw
theorem sn_gsI {n : Nat} {C nm d : String} {v : Int32} (hm : (C, nm, d, v) ∈ kN) (hl : Cond.fieldLink y.cls n C nm d ∈ gtbl) (hd : decode cc pc = .ok (.getstatic n, 3)) (hp : pc + 3 = pc') (k : Sn G y cc mL ret F Lr cvt x pc' L (.int v :: st)) : Sn G y cc mL ret F Lr cvt x pc L st := by
  subst hp
  refine fun h r h' e => ?_
  obtain ⟨k1, k2⟩ := k h r h' e
  exact ⟨k1, fun p l e s m args below meth c H locs cells slots mc ms ls Q hC hR hS hL hb hc hs kk => va_gets hC.1 hC.2.1 (hC.2.2.2.2.2.2.2.2.2.2.2.1 _ hm) hS hC.2.2.2.2.2.2.1 (hC.2.2.2.2.2.2.2.1 _ hl) (fun _ z => z) hd (k2 p l e s m args below meth c H locs cells slots mc ms ls Q hC hR hS hL hb hc hs kk)⟩
end SA
