section SW
variable {α β : Type} {G : GG} {y : MethodName} {cc : ByteArray} {mL : Nat} {ret : Option FieldType} {F Lr : Nat} {cvt : α → Option Value} {x : MM α} {pc pc' : Nat} {L L' : List (Option Value)} {st : List Value}
/-- a step that writes or makes -/
theorem sn_wr {q : MM β} {f : β → MM α} {st2 : β → List Value}
    (hq : ∀ (h : AH) (v : β) (h1 : AH), q h = some (v, h1) → (h.1 ≤ h1.1 ∧ h.2.1 ≤ h1.2.1) ∧ ∀ (p : Program) (l : Launch) (e : Env) (s : State) (m : MethodId) (args : Array Value) (below : List Frame) (meth : Method) (c : Code) (H : Heap) (locs : List Loc) (cells slots mc ms : Nat) (ls : Array Slot) (Q : State → Prop),
      CX G y cc mL ret p s m args meth c → RH G h H → va_S (gA G) s.heap H locs → LH ls mL L → G.1 ≤ s.heap.size → cells + (h1.1 - h.1) ≤ mc → slots + (h1.2.1 - h.2.1) ≤ ms →
      (∀ (H1 : Heap) (locs1 : List Loc), RH G h1 H1 → va_S (gA G) s.heap H1 locs1 → W p l e { frames := F, cells := mc, slots := ms, locals := Lr } s m args below meth c H1 locs1 (cells + (h1.1 - h.1)) (slots + (h1.2.1 - h.2.1)) Q (F0 m pc' ls (st2 v))) →
      W p l e { frames := F, cells := mc, slots := ms, locals := Lr } s m args below meth c H locs cells slots Q (F0 m pc ls st))
    (k : ∀ v, Sn G y cc mL ret F Lr cvt (f v) pc' L (st2 v)) : Sn G y cc mL ret F Lr cvt (mb q f) pc L st := fun h r h' e => by
  unfold mb at e
  cases hv : q h with
  | none => rw [hv] at e; cases e
  | some w =>
    obtain ⟨v, h1⟩ := w
    rw [hv] at e
    obtain ⟨hm, hw⟩ := hq h v h1 hv
    obtain ⟨k1, k2⟩ := k v h1 r h' e
    refine ⟨⟨Nat.le_trans hm.1 k1.1, Nat.le_trans hm.2 k1.2⟩, fun p l e s m args below meth c H locs cells slots mc ms ls Q hC hR hS hL hb hc hs kk => ?_⟩
    exact hw p l e s m args below meth c H locs cells slots mc ms ls Q hC hR hS hL hb (by omega) (by omega) fun H1 locs1 hR1 hS1 =>
      k2 p l e s m args below meth c H1 locs1 _ _ mc ms ls Q hC hR1 hS1 hL hb (by omega) (by omega) kk
/-- a step that writes into a cell -/
theorem sn_pt {q : MM Unit} {f : Unit → MM α} {st2 : List Value}
    (hq : ∀ (h h1 : AH), q h = some ((), h1) → (h1.1 = h.1 ∧ h1.2.1 = h.2.1) ∧ ∀ (p : Program) (l : Launch) (e : Env) (R : Room) (s : State) (m : MethodId) (args : Array Value) (below : List Frame) (meth : Method) (c : Code) (H : Heap) (locs : List Loc) (cells slots : Nat) (ls : Array Slot) (Q : State → Prop),
      CX G y cc mL ret p s m args meth c → RH G h H → va_S (gA G) s.heap H locs →
      (∀ (H1 : Heap) (locs1 : List Loc), RH G h1 H1 → va_S (gA G) s.heap H1 locs1 → W p l e R s m args below meth c H1 locs1 cells slots Q (F0 m pc' ls st2)) →
      W p l e R s m args below meth c H locs cells slots Q (F0 m pc ls st))
    (k : ∀ v, Sn G y cc mL ret F Lr cvt (f v) pc' L st2) : Sn G y cc mL ret F Lr cvt (mb q f) pc L st := by
  refine sn_wr (st2 := fun _ => st2) (fun h v h1 e => ?_) k
  obtain ⟨⟨e1, e2⟩, hw⟩ := hq h h1 e
  refine ⟨⟨Nat.le_of_eq e1.symm, Nat.le_of_eq e2.symm⟩, fun p l e s m args below meth c H locs cells slots mc ms ls Q hC hR hS hL hb hc hs kk => ?_⟩
  rw [e1, e2, Nat.sub_self, Nat.sub_self] at kk
  exact hw p l e _ s m args below meth c H locs cells slots ls Q hC hR hS kk
variable {p : Program} {l : Launch} {e : Env} {R : Room} {s : State} {m : MethodId} {args : Array Value} {below : List Frame} {meth : Method} {c : Code} {H : Heap} {locs : List Loc} {cells slots : Nat} {Q : State → Prop} {ls : Array Slot} {h : AH}
theorem w_put {ci : Nat} {C : String} {T : u_T} {N : Nat} {ty : Nat → FieldType} (hI : CI ci C T N ty) {a k : Nat} {fs : List Value} {v : Value} {index : Nat} (hC : CX G y cc mL ret p s m args meth c) (hR : RH G h H) (hS : va_S (gA G) s.heap H locs) (he : ce h a = .inr (ci, fs)) (hl : k < fs.length) (hk : k < N)
    (hlk : Cond.fieldLink y.cls index (T k).1 (T k).2.1 (T k).2.2.1 ∈ gtbl ∨ ∃ host, Cond.fieldLinkNest y.cls index (T k).1 (T k).2.1 (T k).2.2.1 host ∈ ntbl) (hfin : (T k).2.2.2 = false ∨ ((T k).2.2.2 = true ∧ y.name = "<init>" ∧ (T k).1 = y.cls ∧ Cond.fieldLink y.cls index (T k).1 (T k).2.1 (T k).2.2.1 ∈ gtbl)) (hn : narrow (ty k) v = v) (hf : fits (ty k) v = true) (hd : decode cc pc = .ok (.putfield index, 3))
    (kk : ∀ (H1 : Heap) (locs1 : List Loc), RH G (hs h a (.inr (ci, fs.set k v))) H1 → va_S (gA G) s.heap H1 locs1 → W p l e R s m args below meth c H1 locs1 cells slots Q (F0 m (pc + 3) ls st)) : W p l e R s m args below meth c H locs cells slots Q (F0 m pc ls (v :: .ref a :: st)) := by
  have hB := hC.2.2.2.2.2.2.2.2
  have hts := hC.2.2.2.2.2.2.2.1
  have hown := hC.2.2.2.2.2.2.1
  obtain ⟨hb1, hb2, r, h1, cell, q1, q2, q3, q4⟩ := ob_of hR hC he hI.lt
  have hr : r = (C, T, N) := Option.some.inj (h1.symm.trans hI.1)
  subst hr
  have hap := va_apart (own := C) hts hI.2.1 ty hI.2.2.1 hI.2.2.2 hB.1 hI.1
  obtain ⟨hSl, hfc, kC, hkC, hkind⟩ := hB.1.1 ci _ hI.1
  obtain ⟨cf, kf, fi, fd, hi, hsl⟩ := hSl k hk
  have hlay := hts _ (hI.2.1 _ (u_in_lay hk))
  unfold u_lay at hlay
  have hst := (u_facts hfc hkC (u_lays hts hI.2.1 hk) hi).1
  have fin : ∀ H' : Heap, H'[a]? = some (cell.setSlot fd.slot v) → H'.size = H.size → (∀ q, q ≠ a → H'[q]? = H[q]?) → W p l e R s m args below meth c H' (locs ++ [⟨a, fd.slot⟩]) cells slots Q (F0 m (pc + 3) ls st) := fun H' e1 e2 e3 => by
    refine kk H' _ (hR.put hb1 hb2 ⟨_, hI.1, ?_⟩ trivial e2 e3) (hS.put e2 e3 hb1)
    rw [hsl] at e1
    exact t_OB.to (V := updV (vp_V fs) k v) ⟨_, e1, q2, q3, t_set q4 hap hk v⟩ (fun j _ => vp_updV_set hl v j)
  rcases hfin with hfin | ⟨hfin, hin2, hdecl, hlk2⟩
  · rw [if_neg (by rw [hfin]; decide)] at hlay
    have h6 := u_store hfc hkC hkind hlay hi (hI.2.2.1 k hk) hn hf
    rcases hlk with hlk | ⟨host, hlk⟩
    · exact W.putK hC.1 hC.2.1 (f := fd) ⟨hown, hts _ hlk, ⟨_, _, _, hi⟩, hst⟩ (by rw [q2]; exact h6) q1 q3 (by rw [hsl]; exact k2_hasslot (q4 k hk)) rfl rfl hd fin
    · exact va_WputK hC.1 hC.2.1 (f := fd) hown (va_Nw.use rfl (hB.2.1 _ hlk)) hi hst (by rw [q2]; exact h6) q1 q3 (by rw [hsl]; exact k2_hasslot (q4 k hk)) rfl rfl hd fin
  · rw [if_pos hfin] at hlay
    have hcf : m.cls = cf := by
      obtain ⟨_, _, c', _, _, _, -, -, hf', -, -, -, hown2, -⟩ := Cond.laysFinal_spec hlay
      have e1 : c' = cf := by have := hi.symm.trans hf'; simp at this; exact this.1.symm
      rw [hdecl] at hown2
      rw [← e1]; exact Option.some.inj (hown.symm.trans hown2)
    have h6 := u_fits hfc hkC hkind (Or.inr hlay) hi (hI.2.2.1 k hk) hn hf
    exact W.putFinK hC.1 hC.2.1 hown (hts _ hlk2) hi hst hcf (hC.2.2.2.2.2.1.trans hin2) (by rw [q2]; exact h6) q1 q3 (by rw [hsl]; exact k2_hasslot (q4 k hk)) rfl rfl hd fin
theorem pV_some {ci k : Nat} {r : Option Nat} {v : Value} {h1 : AH} (e : pV ci r k v h = some ((), h1)) : ∃ a fs, r = some a ∧ ce h a = .inr (ci, fs) ∧ k < fs.length ∧ h1 = hs h a (.inr (ci, fs.set k v)) := by
  unfold pV at e
  split at e
  · cases e
  · rename_i a
    split at e
    · cases e
    · rename_i o ho
      split at e
      · rename_i hk
        cases e
        obtain ⟨ci', fs⟩ := o
        obtain ⟨h1, h2⟩ := hk
        have h1 : ci' = ci := h1
        subst h1
        exact ⟨a, fs, rfl, ho, h2, rfl⟩
      · cases e
theorem sn_pV {ci : Nat} {C : String} {T : u_T} {N : Nat} {ty : Nat → FieldType} (hI : CI ci C T N ty) {r : Option Nat} {k index : Nat} {v : Value} {f : Unit → MM α} (hk : Nat.ble (k + 1) N = true) (hlk : Cond.fieldLink y.cls index (T k).1 (T k).2.1 (T k).2.2.1 ∈ gtbl ∨ ∃ host, Cond.fieldLinkNest y.cls index (T k).1 (T k).2.1 (T k).2.2.1 host ∈ ntbl)
    (hfin : (T k).2.2.2 = false ∨ ((T k).2.2.2 = true ∧ y.name = "<init>" ∧ (T k).1 = y.cls ∧ Cond.fieldLink y.cls index (T k).1 (T k).2.1 (T k).2.2.1 ∈ gtbl)) (hn : narrow (ty k) v = v) (hf : fits (ty k) v = true) (hd : decode cc pc = .ok (.putfield index, 3)) (hp : pc + 3 = pc')
    (kk : ∀ v, Sn G y cc mL ret F Lr cvt (f v) pc' L st) : Sn G y cc mL ret F Lr cvt (mb (pV ci r k v) f) pc L (v :: va_rf r :: st) := by
  subst hp
  refine sn_pt (fun h h1 e => ?_) kk
  obtain ⟨a, fs, rfl, he, hl, rfl⟩ := pV_some e
  exact ⟨⟨rfl, rfl⟩, fun p l e R s m args below meth c H locs cells slots ls Q hC hR hS kw => w_put hI hC hR hS he hl (Nat.le_of_ble_eq_true hk) hlk hfin hn hf hd kw⟩
theorem sn_pI {ci : Nat} {C : String} {T : u_T} {N : Nat} {ty : Nat → FieldType} (hI : CI ci C T N ty) {r : Option Nat} {k index : Nat} {v : Int32} {f : Unit → MM α} (hk : Nat.ble (k + 1) N = true) (hlk : Cond.fieldLink y.cls index (T k).1 (T k).2.1 (T k).2.2.1 ∈ gtbl ∨ ∃ host, Cond.fieldLinkNest y.cls index (T k).1 (T k).2.1 (T k).2.2.1 host ∈ ntbl)
    (hfin : (T k).2.2.2 = false ∨ ((T k).2.2.2 = true ∧ y.name = "<init>" ∧ (T k).1 = y.cls ∧ Cond.fieldLink y.cls index (T k).1 (T k).2.1 (T k).2.2.1 ∈ gtbl)) (hty : ty k = .int) (hd : decode cc pc = .ok (.putfield index, 3)) (hp : pc + 3 = pc')
    (kk : ∀ v, Sn G y cc mL ret F Lr cvt (f v) pc' L st) : Sn G y cc mL ret F Lr cvt (mb (pI ci r k v) f) pc L (.int v :: va_rf r :: st) :=
  sn_pV hI hk hlk hfin (by rw [hty]; rfl) (by rw [hty]; rfl) hd hp kk
theorem sn_pR {ci : Nat} {C : String} {T : u_T} {N : Nat} {ty : Nat → FieldType} (hI : CI ci C T N ty) {r : Option Nat} {k index : Nat} {v : Option Nat} {f : Unit → MM α} (hk : Nat.ble (k + 1) N = true) (hlk : Cond.fieldLink y.cls index (T k).1 (T k).2.1 (T k).2.2.1 ∈ gtbl ∨ ∃ host, Cond.fieldLinkNest y.cls index (T k).1 (T k).2.1 (T k).2.2.1 host ∈ ntbl)
    (hfin : (T k).2.2.2 = false ∨ ((T k).2.2.2 = true ∧ y.name = "<init>" ∧ (T k).1 = y.cls ∧ Cond.fieldLink y.cls index (T k).1 (T k).2.1 (T k).2.2.1 ∈ gtbl)) (hty : (∃ n, ty k = .object n) ∨ ∃ t, ty k = .array t) (hd : decode cc pc = .ok (.putfield index, 3)) (hp : pc + 3 = pc')
    (kk : ∀ v, Sn G y cc mL ret F Lr cvt (f v) pc' L st) : Sn G y cc mL ret F Lr cvt (mb (pR ci r k v) f) pc L (va_rf v :: va_rf r :: st) := by
  have hn : narrow (ty k) (va_rf v) = va_rf v ∧ fits (ty k) (va_rf v) = true := by
    rcases hty with ⟨n, e⟩ | ⟨t, e⟩ <;> rw [e] <;> cases v <;> exact ⟨rfl, rfl⟩
  exact sn_pV hI hk hlk hfin hn.1 hn.2 hd hp kk
theorem sn_if_then {q : MM Unit} {d : Prop} [Decidable d] {f : Unit → MM α} (k : d → Sn G y cc mL ret F Lr cvt (mb q f) pc L st) : Sn G y cc mL ret F Lr cvt (mb (if d then q else mf) f) pc L st := by
  by_cases hd : d
  · rw [if_pos hd]; exact k hd
  · rw [if_neg hd]; exact fun h r h' e => by cases e
theorem sn_pZ {ci : Nat} {C : String} {T : u_T} {N : Nat} {ty : Nat → FieldType} (hI : CI ci C T N ty) {r : Option Nat} {k index : Nat} {v : Int32} {f : Unit → MM α} (hk : Nat.ble (k + 1) N = true) (hlk : Cond.fieldLink y.cls index (T k).1 (T k).2.1 (T k).2.2.1 ∈ gtbl ∨ ∃ host, Cond.fieldLinkNest y.cls index (T k).1 (T k).2.1 (T k).2.2.1 host ∈ ntbl)
    (hfin : (T k).2.2.2 = false ∨ ((T k).2.2.2 = true ∧ y.name = "<init>" ∧ (T k).1 = y.cls ∧ Cond.fieldLink y.cls index (T k).1 (T k).2.1 (T k).2.2.1 ∈ gtbl)) (hty : ty k = .boolean) (hd : decode cc pc = .ok (.putfield index, 3)) (hp : pc + 3 = pc')
    (kk : ∀ v, Sn G y cc mL ret F Lr cvt (f v) pc' L st) : Sn G y cc mL ret F Lr cvt (mb (pZ ci r k v) f) pc L (.int v :: va_rf r :: st) := by
  refine sn_if_then fun h01 => ?_
  have hn : narrow (ty k) (.int v) = .int v ∧ fits (ty k) (.int v) = true := by
    rcases h01 with e | e <;> rw [hty, e] <;> exact ⟨by decide, by decide⟩
  exact sn_pV hI hk hlk hfin hn.1 hn.2 hd hp kk
theorem sn_pB {ci : Nat} {C : String} {T : u_T} {N : Nat} {ty : Nat → FieldType} (hI : CI ci C T N ty) {r : Option Nat} {k index : Nat} {v : Int32} {f : Unit → MM α} (hk : Nat.ble (k + 1) N = true) (hlk : Cond.fieldLink y.cls index (T k).1 (T k).2.1 (T k).2.2.1 ∈ gtbl ∨ ∃ host, Cond.fieldLinkNest y.cls index (T k).1 (T k).2.1 (T k).2.2.1 host ∈ ntbl)
    (hfin : (T k).2.2.2 = false ∨ ((T k).2.2.2 = true ∧ y.name = "<init>" ∧ (T k).1 = y.cls ∧ Cond.fieldLink y.cls index (T k).1 (T k).2.1 (T k).2.2.1 ∈ gtbl)) (hty : ty k = .byte) (hd : decode cc pc = .ok (.putfield index, 3)) (hp : pc + 3 = pc')
    (kk : ∀ v, Sn G y cc mL ret F Lr cvt (f v) pc' L st) : Sn G y cc mL ret F Lr cvt (mb (pB ci r k v) f) pc L (.int v :: va_rf r :: st) := by
  refine sn_if_then fun h01 => ?_
  have hn : narrow (ty k) (.int v) = .int v ∧ fits (ty k) (.int v) = true := by
    rw [hty]
    have h2 := fits_narrow_byte v
    have h3 : narrow .byte (.int v) = .int v := by show Value.int v.toInt8.toInt32 = _; rw [h01]
    rw [h3] at h2
    exact ⟨h3, h2⟩
  exact sn_pV hI hk hlk hfin hn.1 hn.2 hd hp kk
theorem vp_cell_up {cA n : Nat} {f : Nat → Int32} {k : Nat} {x : Int32} : (vp_cell cA (n, .inl f)).setSlot k (.int x) = vp_cell cA (n, .inl (upd f k x)) := by
  rw [vp_cell_i, vp_cell_i, arrV_store]
  congr 1
  funext q
  by_cases hq : q = k
  · subst hq
    simp [updV, upd]
  · simp [updV, upd, hq]
theorem vp_cell_uq {cA n : Nat} {f : Nat → Option Nat} {k : Nat} {x : Nat} : (vp_cell cA (n, .inr (.inr (.inr (.inr f))))).setSlot k (.ref x) = vp_cell cA (n, .inr (.inr (.inr (.inr (va_up f k (some x)))))) := by
  rw [vp_cell_q, vp_cell_q, arrV_store]
  congr 1
  funext q
  by_cases hq : q = k
  · subst hq
    simp [updV, va_up, va_rf]
  · simp [updV, va_up, hq]
theorem sn_sI {r : Option Nat} {i v : Int32} {f : Unit → MM α} (hd : decode cc pc = .ok (.iastore, 1)) (hp : pc + 1 = pc') (kk : ∀ v, Sn G y cc mL ret F Lr cvt (f v) pc' L st) : Sn G y cc mL ret F Lr cvt (mb (sI r i v) f) pc L (.int v :: .int i :: va_rf r :: st) := by
  subst hp
  refine sn_pt (fun h h1 hq => ?_) kk
  unfold sI at hq
  split at hq
  · cases hq
  · rename_i a
    split at hq
    · rename_i t n g he
      split at hq
      · rename_i ht
        cases hq
        refine ⟨⟨rfl, rfl⟩, fun p l e R s m args below meth c H locs cells slots ls Q hC hR hS kw => ?_⟩
        obtain ⟨t0, hin⟩ := ht
        subst t0
        obtain ⟨hb1, hb2, hat⟩ := ar_of hR hC he (by decide)
        refine W.iast hC.1 hC.2.1 hat ((hC.2.2.2.2.2.2.2.2.1.2 0 _ rfl).1 n (fun j => .int (g j))) (fun q => by cases q) (by show ¬ (i < 0 ∨ (arrV _ _ _).slots.size ≤ _); rw [arrV_size]; exact hin) rfl rfl hd fun H1 e z oq => ?_
        refine kw H1 _ (hR.put hb1 hb2 ?_ (by show (0 : Nat) < 5; decide) z oq) (hS.put z oq hb1)
        show H1[a]? = some (vp_cell _ _)
        rw [e]
        exact congrArg some vp_cell_up
      · cases hq
    · cases hq
theorem sn_sB {r : Option Nat} {i v : Int32} {f : Unit → MM α} (hd : decode cc pc = .ok (.bastore, 1)) (hp : pc + 1 = pc') (kk : ∀ v, Sn G y cc mL ret F Lr cvt (f v) pc' L st) : Sn G y cc mL ret F Lr cvt (mb (sB r i v) f) pc L (.int v :: .int i :: va_rf r :: st) := by
  subst hp
  refine sn_pt (fun h h1 hq => ?_) kk
  unfold sB at hq
  split at hq
  · cases hq
  · rename_i a
    split at hq
    · rename_i t n g he
      split at hq
      · rename_i ht
        cases hq
        refine ⟨⟨rfl, rfl⟩, fun p l e R s m args below meth c H locs cells slots ls Q hC hR hS kw => ?_⟩
        obtain ⟨t0, hin⟩ := ht
        subst t0
        obtain ⟨hb1, hb2, hat⟩ := ar_of hR hC he (by decide)
        refine W.bast hC.1 hC.2.1 hat ((hC.2.2.2.2.2.2.2.2.1.2 1 _ rfl).1 n (fun j => .int (g j))) (fun q => by cases q) (by show ¬ (i < 0 ∨ (arrV _ _ _).slots.size ≤ _); rw [arrV_size]; exact hin) rfl rfl hd fun H1 e z oq => ?_
        refine kw H1 _ (hR.put hb1 hb2 ?_ (by show (1 : Nat) < 5; decide) z oq) (hS.put z oq hb1)
        show H1[a]? = some (vp_cell _ _)
        rw [e]
        exact congrArg some vp_cell_up
      · split at hq
        · rename_i ht
          cases hq
          refine ⟨⟨rfl, rfl⟩, fun p l e R s m args below meth c H locs cells slots ls Q hC hR hS kw => ?_⟩
          obtain ⟨t0, hin⟩ := ht
          subst t0
          obtain ⟨hb1, hb2, hat⟩ := ar_of hR hC he (by decide)
          refine W.zast hC.1 hC.2.1 hat ((hC.2.2.2.2.2.2.2.2.1.2 2 _ rfl).1 n (fun j => .int (g j))) (fun q => by cases q) (by show ¬ (i < 0 ∨ (arrV _ _ _).slots.size ≤ _); rw [arrV_size]; exact hin) rfl rfl hd fun H1 e z oq => ?_
          refine kw H1 _ (hR.put hb1 hb2 ?_ (by show (2 : Nat) < 5; decide) z oq) (hS.put z oq hb1)
          show H1[a]? = some (vp_cell _ _)
          rw [e]
          exact congrArg some vp_cell_up
        · cases hq
    · cases hq
theorem sn_sR {r : Option Nat} {i : Int32} {v : Option Nat} {f : Unit → MM α} (hd : decode cc pc = .ok (.aastore, 1)) (hp : pc + 1 = pc') (kk : ∀ v, Sn G y cc mL ret F Lr cvt (f v) pc' L st) : Sn G y cc mL ret F Lr cvt (mb (sR r i v) f) pc L (va_rf v :: .int i :: va_rf r :: st) := by
  subst hp
  refine sn_pt (fun h h1 hq => ?_) kk
  unfold sR at hq
  split at hq
  · rename_i a b
    split at hq
    · rename_i t n g o he ho
      split at hq
      · rename_i ht
        cases hq
        refine ⟨⟨rfl, rfl⟩, fun p l e R s m args below meth c H locs cells slots ls Q hC hR hS kw => ?_⟩
        obtain ⟨t0, hci, hin⟩ := ht
        have h0 : ¬ i < 0 := fun q => hin (Or.inl q)
        have hlt : i.toNatClampNeg < n := Nat.not_le.mp fun q => hin (Or.inr q)
        have hB := hC.2.2.2.2.2.2.2.2
        obtain ⟨ci, fs⟩ := o
        have hci : ci = ciOf t := hci
        subst hci
        have key : ∃ C T N, vwCl[ciOf t]? = some (C, T, N) ∧ (gT G)[t]? = some (G.2.2.1 t, .object C) ∧ t < 5 ∧ ciOf t < 14 := by
          rcases t0 with e | e
          · subst e; exact ⟨_, _, _, rfl, rfl, by decide, by decide⟩
          · subst e; exact ⟨_, _, _, rfl, rfl, by decide, by decide⟩
        obtain ⟨C, T, N, hcl, hty, ht5, h14⟩ := key
        obtain ⟨hb1, hb2, hat⟩ := ar_of hR hC he ht5
        obtain ⟨-, -, r', hr', cellV, g1, g2, g3, -⟩ := ob_of hR hC ho h14
        have hcls := (hB.1.1 _ _ hcl).2
        obtain ⟨kA, comp, k1, k2, k3, -⟩ := (hB.1.2 t _ hty).2
        have hcomp : comp = G.2.1.1 (ciOf t) := Option.some.inj (k3.symm.trans hcls.1)
        subst hcomp
        obtain ⟨kC, hkC, -⟩ := hcls.2
        refine W.aast hC.1 hC.2.1 hat (fun q h => by cases h) (fun h => by cases h) k1 k2 rfl hkC ⟨h0, by show _ < (arrV _ _ _).slots.size; rw [arrV_size]; exact hlt⟩ g1 (fun q h => by rw [g3] at h; cases h) (by rw [g2]; exact hkC) (by rw [g2]; exact va_assign hcls) rfl rfl hd fun H1 e z oq => ?_
        refine kw H1 _ (hR.put hb1 hb2 ?_ ht5 z oq) (hS.put z oq hb1)
        show H1[a]? = some (vp_cell _ _)
        rw [e]
        exact congrArg some vp_cell_uq
      · cases hq
    · cases hq
  · cases hq
end SW
