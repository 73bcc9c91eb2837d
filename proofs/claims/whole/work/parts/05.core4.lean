section SC
variable {α β : Type} {G : GG} {y : MethodName} {cc : ByteArray} {mL : Nat} {ret : Option FieldType} {F Lr : Nat} {cvt : α → Option Value} {x : MM α} {pc pc' : Nat} {L L' : List (Option Value)} {st : List Value}
variable {p : Program} {l : Launch} {e : Env} {R : Room} {s : State} {m : MethodId} {args : Array Value} {below : List Frame} {meth : Method} {c : Code} {H : Heap} {locs : List Loc} {cells slots : Nat} {Q : State → Prop} {ls : Array Slot} {h : AH}
theorem hn_c (h : AH) (n : Nat) (e : va_E) : (hn h n e).1 - h.1 = 1 := by show h.1 + 1 - h.1 = 1; omega
theorem hn_s (h : AH) (n : Nat) (e : va_E) : (hn h n e).2.1 - h.2.1 = n := by show h.2.1 + n - h.2.1 = n; omega
theorem sn_nO {ci : Nat} {C : String} {T : u_T} {N : Nat} {ty : Nat → FieldType} (hI : CI ci C T N ty) {index : Nat} {fs : List Value} {f : Option Nat → MM α} (hcl : Cond.classLink y.cls index C ∈ gtbl) (hin : Cond.instantiable C N ∈ gtbl) (hini : Cond.initialized C ∈ gtbl) (hfs : (List.range N).map (fun j => defaultValue (ty j)) = fs) (hd : decode cc pc = .ok (.new index, 3)) (hp : pc + 3 = pc')
    (kk : ∀ v, Sn G y cc mL ret F Lr cvt (f v) pc' L (va_rf v :: st)) : Sn G y cc mL ret F Lr cvt (mb (nO ci N fs) f) pc L st := by
  subst hp
  refine sn_wr (st2 := fun v => va_rf v :: st) (fun h v h1 e => ?_) kk
  unfold nO at e
  cases e
  refine ⟨⟨Nat.le_succ _, Nat.le_add_right _ _⟩, fun p l e s m args below meth c H locs cells slots mc ms ls Q hC hR hS hL hb hc hs kw => ?_⟩
  rw [hn_c] at hc kw
  rw [hn_s] at hs kw
  have hB := hC.2.2.2.2.2.2.2.2
  have hts := hC.2.2.2.2.2.2.2.1
  have hown := hC.2.2.2.2.2.2.1
  have hKn := hB.1.1 ci _ hI.1
  refine W.newcK hC.1 hC.2.1 hown (hts _ hcl) (hts _ hin) (hts _ hini) rfl hd hc hs hKn.2.1 hR.2.1 fun H1 kC hkC e1 z1 o1 => ?_
  refine kw H1 locs (hR.new ⟨_, hI.1, (u_born ty hts hI.2.1 hKn hkC e1 hI.2.2.1).to fun j hj => ?_⟩ trivial z1 o1) (S_new hR hS z1 o1)
  show defaultValue (ty j) = fs.getD j .null
  rw [← hfs, List.getD_eq_getElem?_getD, List.getElem?_map, List.getElem?_range hj]
  rfl
def atyp (t : Nat) : FieldType := if t = 0 then .int else if t = 1 then .byte else .boolean
theorem atyp_b (t : Nat) : componentBytes (atyp t) ≤ 8 ∧ defaultValue (atyp t) = .int 0 := by
  unfold atyp
  split
  · exact ⟨by decide, rfl⟩
  · split
    · exact ⟨by decide, rfl⟩
    · exact ⟨by decide, rfl⟩
theorem atyp_K {t : Nat} (ht : t < 3) (G : GG) : (gT G)[t]? = some (G.2.2.1 t, atyp t) := by
  rcases (show t = 0 ∨ t = 1 ∨ t = 2 by omega) with e | e | e <;> (subst e; rfl)
theorem sn_nA {t : Nat} {aty : ArrayType} {n : Int32} {f : Option Nat → MM α} (ht : Nat.ble (t + 1) 3 = true) (hty : newarray.typeOf aty = atyp t) (har : Cond.arrayClass (atyp t) ∈ gtbl) (hd : decode cc pc = .ok (.newarray aty, 2)) (hp : pc + 2 = pc')
    (kk : ∀ v, Sn G y cc mL ret F Lr cvt (f v) pc' L (va_rf v :: st)) : Sn G y cc mL ret F Lr cvt (mb (nA t n) f) pc L (.int n :: st) := by
  subst hp
  refine sn_wr (st2 := fun v => va_rf v :: st) (fun h v h1 e => ?_) kk
  unfold nA at e
  split at e
  · rename_i hn0
    cases e
    refine ⟨⟨Nat.le_succ _, Nat.le_add_right _ _⟩, fun p l e s m args below meth c H locs cells slots mc ms ls Q hC hR hS hL hb hc hs kw => ?_⟩
    rw [hn_c] at hc kw
    rw [hn_s] at hs kw
    have hB := hC.2.2.2.2.2.2.2.2
    have hts := hC.2.2.2.2.2.2.2.1
    have ht3 : t < 3 := Nat.le_of_ble_eq_true ht
    have hk := hB.1.2 t _ (atyp_K ht3 G)
    refine va_newaK hC.1 hC.2.1 (by rw [hty]; exact hts _ har) rfl hd rfl hn0.1 rfl (by rw [hty]; exact Nat.le_trans (Nat.mul_le_mul_left _ (atyp_b t).1) hn0.2) hc hs hR.2.1 fun H1 cA e1 z1 o1 hAr hNm => ?_
    have hcA : cA = G.2.2.1 t := by
      have h1 : s.vm.findClass ("[" ++ (atyp t).toString) = some (G.2.2.1 t) := by
        have h2 := hk.2
        rcases (show t = 0 ∨ t = 1 ∨ t = 2 by omega) with e | e | e <;> (subst e; exact h2)
      rw [hty] at hNm
      exact Option.some.inj (hNm.symm.trans h1)
    subst hcA
    refine kw H1 locs (hR.new ?_ (by show t < 5; omega) z1 o1) (S_new hR hS z1 o1)
    show H1[h.1]? = some (vp_cell (G.2.2.1 t) (n.toNatClampNeg, .inl (fun _ => 0)))
    rw [vp_cell_i, e1, hty, (atyp_b t).2]
  · cases e
def qtyp (t : Nat) : String := if t = 3 then RX0 else RX2
theorem sn_nQ {t : Nat} {n : Int32} {index : Nat} {f : Option Nat → MM α} (ht : t = 3 ∨ t = 4) (hcl : Cond.classLink y.cls index (qtyp t) ∈ gtbl) (hov : Cond.arrayOver (.object (qtyp t)) ∈ ntbl) (hd : decode cc pc = .ok (.anewarray index, 3)) (hp : pc + 3 = pc')
    (kk : ∀ v, Sn G y cc mL ret F Lr cvt (f v) pc' L (va_rf v :: st)) : Sn G y cc mL ret F Lr cvt (mb (nQ t n) f) pc L (.int n :: st) := by
  subst hp
  refine sn_wr (st2 := fun v => va_rf v :: st) (fun h v h1 e => ?_) kk
  unfold nQ at e
  split at e
  · rename_i hn0
    cases e
    refine ⟨⟨Nat.le_succ _, Nat.le_add_right _ _⟩, fun p l e s m args below meth c H locs cells slots mc ms ls Q hC hR hS hL hb hc hs kw => ?_⟩
    rw [hn_c] at hc kw
    rw [hn_s] at hs kw
    have hB := hC.2.2.2.2.2.2.2.2
    have hts := hC.2.2.2.2.2.2.2.1
    refine W.anew hC.1 hC.2.1 hC.2.2.2.2.2.2.1 (hts _ hcl) (va_AO.use (hB.2.1 _ hov)) rfl hd rfl hn0.1 (by have := hn0.2; omega) hc hs fun cA kA comp f1 f2 f3 f4 => ?_
    have hk : G.2.2.1 t = cA := by
      rcases ht with e | e
      · subst e
        obtain ⟨kA', comp', k1, k2, k3, k4⟩ := (hB.1.2 3 _ rfl).2
        exact Option.some.inj (k4.symm.trans f1)
      · subst e
        obtain ⟨kA', comp', k1, k2, k3, k4⟩ := (hB.1.2 4 _ rfl).2
        exact Option.some.inj (k4.symm.trans f1)
    generalize hH1 : H.push ({ cls := cA, slots := Array.replicate n.toNatClampNeg .null, vm := .none } : Cell) = H1
    have z1 : H1.size = h.1 + 1 := by rw [← hH1, Array.size_push, hR.2.1]
    have e1 : H1[h.1]? = some (arrV cA n.toNatClampNeg (fun _ => .null)) := by rw [← hR.2.1, ← hH1, Array.getElem?_push_size, ← arrV_new]
    have o1 : ∀ q : Nat, q < h.1 → H1[q]? = H[q]? := fun q hq => by rw [← hH1, Array.getElem?_push, if_neg (by rw [hR.2.1]; omega)]
    have hsz := hR.2.1
    rw [hsz]
    refine kw H1 locs (hR.new ?_ (by show t < 5; omega) z1 o1) (S_new hR hS z1 o1)
    show H1[h.1]? = some (vp_cell (G.2.2.1 t) _)
    rw [hk]
    exact e1
  · cases e
/-- ends -/
theorem sn_iret {ty : FieldType} {v : Int32} (hd : decode cc pc = .ok (.ireturn, 1)) (hr : ret = some ty) (hn0 : narrow ty (.int v) = .int v) : Sn G y cc mL ret F Lr (fun v : Int32 => some (.int v)) (mr v) pc L [.int v] := fun h r h' e => by
  cases e
  refine ⟨⟨Nat.le_refl _, Nat.le_refl _⟩, fun p l e s m args below meth c H locs cells slots mc ms ls Q hC hR hS hL hb hc hs kk => ?_⟩
  exact W.widen (by omega) (by omega) (kk H locs pc ls _ hR hS (Or.inl ⟨v, ty, rfl, rfl, hr, hn0, hd⟩))
theorem sn_aret {ty : FieldType} {v : Option Nat} (hd : decode cc pc = .ok (.areturn, 1)) (hr : ret = some ty) (hty : (∃ n, ty = .object n) ∨ ∃ t, ty = .array t) : Sn G y cc mL ret F Lr (fun v : Option Nat => some (va_rf v)) (mr v) pc L [va_rf v] := fun h r h' e => by
  cases e
  refine ⟨⟨Nat.le_refl _, Nat.le_refl _⟩, fun p l e s m args below meth c H locs cells slots mc ms ls Q hC hR hS hL hb hc hs kk => ?_⟩
  exact W.widen (by omega) (by omega) (kk H locs pc ls _ hR hS (Or.inr (Or.inl ⟨v, ty, rfl, rfl, hr, hty, hd⟩)))
theorem sn_vret (hd : decode cc pc = .ok (.return_, 1)) (hr : ret = none) : Sn G y cc mL ret F Lr (fun _ : Unit => none) (mr ()) pc L [] := fun h r h' e => by
  cases e
  refine ⟨⟨Nat.le_refl _, Nat.le_refl _⟩, fun p l e s m args below meth c H locs cells slots mc ms ls Q hC hR hS hL hb hc hs kk => ?_⟩
  exact W.widen (by omega) (by omega) (kk H locs pc ls _ hR hS (Or.inr (Or.inr ⟨rfl, rfl, hr, hd⟩)))
/-- a method's contract -/
def QG (G : GG) (h' : AH) (rv : Option Value) : Array Value → State → Outcome → State → Prop := fun _ st oc t => oc = .returned rv ∧ RH G h' t.heap ∧ va_F (gA G) st t
def Cal (G : GG) (y : MethodName) (cc : ByteArray) (mL : Nat) (ret : Option FieldType) (F Lr : Nat) (cvt : β → Option Value) (x : MM β) (av : List Value) : Prop :=
  ∀ (h : AH) (r : β) (h' : AH), x h = some (r, h') → (h.1 ≤ h'.1 ∧ h.2.1 ≤ h'.2.1) ∧ ∀ l : Launch,
    Met l y (.code y cc mL ret :: gtbl) { frames := F, cells := h'.1 - h.1, slots := h'.2.1 - h.2.1, locals := Lr } (va_Pc av (fun U => RH G h U.heap ∧ GB G U)) (QG G h' (cvt r)) (h'.1 - h.1) (h'.2.1 - h.2.1) (gA G)
theorem args_in : ∀ (av : List Value) (o : Nat), (∀ v ∈ av, v.category = 1) → ∀ (i : Nat) (v : Value), av[i]? = some v → (o + i, v) ∈ lv_args o av
  | [], o, _, i, v, h => by simp at h
  | a :: av, o, hc, i, v, h => by
    unfold lv_args
    rw [if_neg (by rw [hc a List.mem_cons_self]; decide)]
    cases i with
    | zero =>
      have e : a = v := by simpa using h
      subst e
      exact List.mem_cons_self
    | succ i =>
      have h2 := args_in av (o + 1) (fun v hv => hc v (List.mem_cons_of_mem _ hv)) i v (by simpa using h)
      rw [show o + (i + 1) = o + 1 + i by omega]
      exact List.mem_cons_of_mem _ h2
theorem LH_entry {av : List Value} {n : Nat} (h : (lg_sl av).length ≤ n) (hc : ∀ v ∈ av, v.category = 1) : LH ((lg_sl av ++ List.replicate (n - (lg_sl av).length) Slot.unset).toArray) n (av.map some) := by
  have h1 := lv_entry av h
  refine ⟨h1.1, h1.2.1, fun i v hv => ?_⟩
  have hv : av[i]? = some v := by
    rw [List.getElem?_map] at hv
    cases ha : av[i]? with
    | none => rw [ha] at hv; cases hv
    | some w => rw [ha] at hv; cases hv; rfl
  have h2 := args_in av 0 hc i v hv
  rw [Nat.zero_add] at h2
  exact ⟨h1.2.2 (i, v) h2, hc v (List.mem_of_getElem? hv)⟩
theorem cat_nil : ∀ v ∈ ([] : List Value), v.category = 1 := fun v h => by cases h
theorem cat_i {a : Int32} {l : List Value} (h : ∀ v ∈ l, v.category = 1) : ∀ v ∈ (Value.int a :: l), v.category = 1 := fun v hv => by
  rcases List.mem_cons.mp hv with e | e
  · rw [e]; rfl
  · exact h v e
theorem cat_q {a : Option Nat} {l : List Value} (h : ∀ v ∈ l, v.category = 1) : ∀ v ∈ (va_rf a :: l), v.category = 1 := fun v hv => by
  rcases List.mem_cons.mp hv with e | e
  · rw [e]; exact cat_rf a
  · exact h v e
theorem cat_t {a : Nat} {l : List Value} (h : ∀ v ∈ l, v.category = 1) : ∀ v ∈ (Value.ref a :: l), v.category = 1 := fun v hv => by
  rcases List.mem_cons.mp hv with e | e
  · rw [e]; rfl
  · exact h v e
theorem cat_sum : ∀ (l : List Value), (∀ v ∈ l, v.category = 1) → (l.map fun v => v.category).sum = l.length
  | [], _ => rfl
  | a :: l, h => by
    rw [List.map_cons, List.sum_cons, cat_sum l (fun v hv => h v (List.mem_cons_of_mem _ hv)), h a List.mem_cons_self, List.length_cons]
    omega
theorem cat_sl : ∀ (l : List Value), (∀ v ∈ l, v.category = 1) → (lg_sl l).length = l.length
  | [], _ => rfl
  | a :: l, h => by
    have h1 := cat_sl l (fun v hv => h v (List.mem_cons_of_mem _ hv))
    unfold lg_sl at h1 ⊢
    rw [List.flatMap_cons, if_neg (by rw [h a List.mem_cons_self]; decide), List.length_append, h1, List.length_cons, List.length_cons, List.length_nil]
    omega
theorem le_n {t u : List (Option Value)} {a : Option Value} (h : LE t u) : LE (none :: t) (a :: u) := h
theorem le_s {t u : List (Option Value)} {v : Value} (h : LE t u) : LE (some v :: t) (some v :: u) := ⟨rfl, h⟩
theorem le_e {u : List (Option Value)} : LE [] u := trivial
theorem Cal.of {x : MM β} {cvt : β → Option Value} {av : List Value} (hy : plainName y.cls = true) (hc : ∀ v ∈ av, v.category = 1) (hlen : Nat.ble av.length mL = true) (k : Sn G y cc mL ret F Lr cvt x 0 (av.map some) []) : Cal G y cc mL ret F Lr cvt x av := fun h r h' e => by
  obtain ⟨k1, k2⟩ := k h r h' e
  refine ⟨k1, fun l => ?_⟩
  refine Met.ofW (cc := cc) (maxL := mL) (ret := ret) hy rfl ?_
  intro p e s m args below meth c s₁ B hml hv
  obtain ⟨rfl, hR, hG⟩ := hv
  have hts := atoms_spec (ws := .code y cc mL ret :: gtbl) B.pre
  have hC : CX G y cc mL ret p s m av.toArray meth c := ⟨B.exec, B.bytes, hml, B.returns, B.notSynchronized, (name_of_methodNamed B.named B.method).1, findClass_of_methodNamed B.named, fun w hw => hts w (List.mem_cons_of_mem _ hw), hG⟩
  rw [lg_entry_eq]
  refine k2 p l e s m av.toArray below meth c s.heap [] 0 0 _ _ _ _ hC hR va_S.rf (LH_entry (by rw [cat_sl av hc]; exact Nat.le_of_ble_eq_true hlen) hc) (by have := hR.1; have := hR.2.1; omega) (by omega) (by omega) ?_
  intro H' locs' pc' ls' st' hR' hS' hr
  rcases hr with ⟨v, ty, e1, e2, e3, e4, e5⟩ | ⟨q, ty, e1, e2, e3, e4, e5⟩ | ⟨e1, e2, e3, e4⟩
  · subst e2
    exact W.zret hC.1 hC.2.1 (hC.2.2.2.1.trans e3) e4 (fun t ht hW => ⟨by rw [e1], by rw [ht]; exact hR', hS'.F ht⟩) hS'.2.2 e5
  · subst e2
    exact W.aret hC.1 hC.2.1 (hC.2.2.2.1.trans e3) e4 (by cases q; exact Or.inl rfl; exact Or.inr ⟨_, rfl⟩) (fun t ht hW => ⟨by rw [e1], by rw [ht]; exact hR', hS'.F ht⟩) hS'.2.2 e5
  · subst e2
    exact W.vret hC.1 hC.2.1 (hC.2.2.2.1.trans e3) (fun t ht hW => ⟨by rw [e1], by rw [ht]; exact hR', hS'.F ht⟩) hS'.2.2 e4
end SC
