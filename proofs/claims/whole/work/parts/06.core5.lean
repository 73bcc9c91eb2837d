section SD
variable {α β : Type} {G : GG} {y : MethodName} {cc : ByteArray} {mL : Nat} {ret : Option FieldType} {F Lr : Nat} {cvt : α → Option Value} {x : MM α} {pc pc' : Nat} {L L' : List (Option Value)} {st stk : List Value}
/-- a receiver of class ci -/
def wc {α : Type} (ci : Nat) (r : Option Nat) (f : Nat → MM α) : MM α := fun h => match r with
  | none => none
  | some a => match ce h a with
    | .inl _ => none
    | .inr o => if okc ci o.1 = true then f a h else none
theorem wc_some {ci : Nat} {r : Option Nat} {f : Nat → MM β} {h h1 : AH} {v : β} (e : wc ci r f h = some (v, h1)) : ∃ a o, r = some a ∧ ce h a = .inr o ∧ okc ci o.1 = true ∧ f a h = some (v, h1) := by
  unfold wc at e
  split at e
  · cases e
  · rename_i a
    split at e
    · cases e
    · rename_i o ho
      split at e
      · rename_i hk
        exact ⟨a, o, rfl, ho, hk, e⟩
      · cases e
theorem wn_some {r : Option Nat} {f : Nat → MM β} {h h1 : AH} {v : β} (e : wn r f h = some (v, h1)) : ∃ a, r = some a ∧ f a h = some (v, h1) := by
  unfold wn at e
  split at e
  · cases e
  · rename_i a
    exact ⟨a, rfl, e⟩
variable {p : Program} {l : Launch} {e : Env} {R : Room} {s : State} {m : MethodId} {args : Array Value} {below : List Frame} {meth : Method} {c : Code} {H : Heap} {locs : List Loc} {cells slots : Nat} {Q : State → Prop} {ls : Array Slot} {h : AH}
theorem w_recv {ci : Nat} {C : String} {T : u_T} {N : Nat} {ty : Nat → FieldType} (hI : CI ci C T N ty) {a : Nat} {o : Nat × List Value} (hC : CX G y cc mL ret p s m args meth c) (hR : RH G h H) (hS : va_S (gA G) s.heap H locs) (he : ce h a = .inr o) (hok : okc ci o.1 = true) : ∃ cell : Cell, H[a]? = some cell ∧ cell.vm.isStatics = false ∧ s.vm.findClass C = some cell.cls := by
  have hB := hC.2.2.2.2.2.2.2.2
  have hlt := hI.lt
  by_cases h14 : o.1 = 14
  · have hci : ci = 0 := by
      unfold okc at hok
      rw [h14] at hok
      simp at hok
      omega
    subst hci
    have e1 : (C, T, N) = (RJ0, TJ0, 4) := Option.some.inj (hI.1.symm.trans rfl)
    cases e1
    have hl2 : a < h.1 := hR.lo (by rw [he]; intro q; cases q; cases h14)
    by_cases hb : a < G.1
    · have h1 := hB.2.2.2.2.2 a hb
      unfold KR at h1
      rw [← hR.2.2.2.1 a hb, he] at h1
      rcases h1 with ⟨q, h2, h3, h4⟩ | q
      · exact va_Orecv h3 hS
      · rw [q] at h14; cases h14
    · have h1 := (hR.2.2.1 a (Nat.not_lt.mp hb) hl2).1
      rw [he] at h1
      obtain ⟨r, h2, -⟩ := h1
      exfalso
      have h3 : vwCl[o.1]? = some r := h2
      rw [h14] at h3
      cases h3
  · have hci : o.1 = ci := by
      unfold okc at hok
      simp at hok
      omega
    obtain ⟨ci', fs⟩ := o
    have hci : ci' = ci := hci
    subst hci
    exact va_recv hB.1 (one_P (ob_of hR hC he hlt).2.2) hI.1 (q0 := 0) rfl
/-- what a call brings back -/
theorem w_back {y2 : MethodName} {h1 : AH} {rv : Option Value} {av : Array Value} (hS : va_S (gA G) s.heap H locs) (hR : RH G h H)
    (hr : va_Run p l e R s m args below meth c H locs cells slots (h1.1 - h.1) (h1.2.1 - h.2.1) (F0 m pc ls stk) st (QG G h1 rv av) (gA G))
    (kw : ∀ (H1 : Heap) (locs1 : List Loc), RH G h1 H1 → va_S (gA G) s.heap H1 locs1 → W p l e R s m args below meth c H1 locs1 (cells + (h1.1 - h.1)) (slots + (h1.2.1 - h.2.1)) Q (F0 m (pc + 3) ls (rv.toList ++ st))) : W p l e R s m args below meth c H locs cells slots Q (F0 m pc ls stk) := by
  intro T hT X
  obtain ⟨v, st₀, t, T', L, h0, X', hL, e1, e2, ⟨hv, hR1, hz, hk⟩, step⟩ := hr T hT X
  cases hv
  rw [h0] at hz hk
  obtain ⟨t2, a1, b1⟩ := kw T'.heap (locs ++ L) (by rw [e1]; exact hR1) ⟨Nat.le_trans hS.1 (by rw [e1]; exact hz), fun q g1 g2 => by
      rw [e1, hk q (Nat.lt_of_lt_of_le g1 hS.1) g2]; exact hS.2.1 q g1 g2, fun q hq => by
      rcases List.mem_append.mp hq with g | g
      · exact hS.2.2 q g
      · exact hL q g⟩ T' rfl X'
  exact ⟨t2, step t2 a1, b1⟩
theorem Pc_blind {av : List Value} {h : AH} : FrameBlind (va_Pc av (fun U => RH G h U.heap ∧ GB G U)) := fun a U g mk q => ⟨q.1, q.2.1, q.2.2.same rfl rfl⟩
theorem Pc_at {av : List Value} (hC : CX G y cc mL ret p s m args meth c) (hR : RH G h H) (hS : va_S (gA G) s.heap H locs) : ∀ U : State, U.heap = H → s.WarmedH U.vm → va_Pc av (fun U => RH G h U.heap ∧ GB G U) av.toArray U := fun U hU hW =>
  ⟨rfl, by rw [hU]; exact hR, hC.2.2.2.2.2.2.2.2.warm hW (fun q h1 h2 => by rw [hU]; exact hS.2.1 q h1 h2)⟩
theorem g_ws {y2 : MethodName} {c2 : ByteArray} {mL2 : Nat} {ret2 : Option FieldType} (hC : CX G y cc mL ret p s m args meth c) (hw : Cond.code y2 c2 mL2 ret2 ∈ gtbl) : ∀ w ∈ (Cond.code y2 c2 mL2 ret2 :: gtbl), ∀ (a' : Array Value) (U : State), s.WarmedH U.vm → w.before a' U = true := fun w hm a' U hW => by
  have h1 : w ∈ gtbl := by
    rcases List.mem_cons.mp hm with e | e
    · rw [e]; exact hw
    · exact e
  exact word_at hW (good_of_word (List.mem_filter.mp h1).2) (hC.2.2.2.2.2.2.2.1 w h1)
/-- a callee: its words, its room -/
def CW (y2 : MethodName) (c2 : ByteArray) (mL2 : Nat) (ret2 : Option FieldType) (n : Nat) : Prop := Cond.code y2 c2 mL2 ret2 ∈ gtbl ∧ Cond.initialized y2.cls ∈ gtbl ∧ (y2.cls ≠ "java/lang/invoke/MethodHandle" ∧ y2.cls ≠ "java/lang/invoke/VarHandle") ∧ (parseMethodDescriptor y2.desc).map (fun d => d.parameters.length) = some n
theorem n_of {y2 : MethodName} {n : Nat} (h : (parseMethodDescriptor y2.desc).map (fun d => d.parameters.length) = some n) : ∀ sig, parseMethodDescriptor y2.desc = some sig → n = sig.parameters.length := fun sig hs => by
  rw [hs] at h
  exact (Option.some.inj h).symm
theorem call_room {st : List Value} {pc : Nat} {ls : Array Slot} {m : MethodId} (hc : ∀ v ∈ st, v.category = 1) (hc8 : Nat.ble st.length 8 = true) : 2 * (F0 m pc ls stk).monitorRoom + (st.map fun v => v.category).sum ≤ 8 := lv_room (rest := stk) (by rw [cat_sum st hc]; exact Nat.le_of_ble_eq_true hc8)
theorem call_b {y2 : MethodName} {c2 : ByteArray} {mL2 : Nat} {ret2 : Option FieldType} {F2 L2 n k w : Nat} {index mc ms : Nat} (hC : CX G y cc mL ret p s m args meth c) (hw : CW y2 c2 mL2 ret2 n) (hF : Nat.ble (F2 + 1) F = true) (hL : Nat.ble (8 + (mL2 + 11) + L2) Lr = true) (hlk : Cond.methodLink y.cls index y2 ∈ gtbl) :
    CallB { frames := F, cells := k, slots := w, locals := Lr } s args y.cls index y2 c2 mL2 ret2 (.code y2 c2 mL2 ret2 :: gtbl) { frames := F2, cells := mc, slots := ms, locals := L2 } mc ms n :=
  ⟨rfl, rfl, Nat.le_of_ble_eq_true hF, Nat.le_of_ble_eq_true hL, g_ws hC hw.1, List.mem_cons_self, hC.2.2.2.2.2.2.2.1 _ hw.1, hC.2.2.2.2.2.2.2.1 _ hw.2.1, hw.2.2.1, n_of hw.2.2.2, hC.2.2.2.2.2.2.2.1 _ hlk⟩
theorem call_n {y2 : MethodName} {c2 : ByteArray} {mL2 : Nat} {ret2 : Option FieldType} {F2 L2 n k w : Nat} {index mc ms : Nat} {host : String} (hC : CX G y cc mL ret p s m args meth c) (hw : CW y2 c2 mL2 ret2 n) (hF : Nat.ble (F2 + 1) F = true) (hL : Nat.ble (8 + (mL2 + 11) + L2) Lr = true) (hlk : Cond.methodLinkNest y.cls index y2 host ∈ ntbl) :
    va_CN { frames := F, cells := k, slots := w, locals := Lr } s args y.cls index y2 host c2 mL2 ret2 (.code y2 c2 mL2 ret2 :: gtbl) { frames := F2, cells := mc, slots := ms, locals := L2 } mc ms n :=
  ⟨⟨rfl, rfl, Nat.le_of_ble_eq_true hF, Nat.le_of_ble_eq_true hL, g_ws hC hw.1, List.mem_cons_self⟩, hC.2.2.2.2.2.2.2.1 _ hw.1, hC.2.2.2.2.2.2.2.1 _ hw.2.1, hw.2.2.1, n_of hw.2.2.2, va_Nw.use rfl (hC.2.2.2.2.2.2.2.2.2.1 _ hlk)⟩
theorem fixd (hC : CX G y cc mL ret p s m args meth c) : CallFix p m c cc mL s args gtbl y.cls := ⟨hC.1, hC.2.1, hC.2.2.1, hC.2.2.2.2.2.2.1, hC.2.2.2.2.2.2.2.1⟩
/-- a virtual call -/
theorem sn_cV {ci : Nat} {C : String} {T : u_T} {N : Nat} {ty : Nat → FieldType} (hI : CI ci C T N ty) {y2 : MethodName} {c2 : ByteArray} {mL2 : Nat} {ret2 : Option FieldType} {F2 L2 index n : Nat} {cv2 : β → Option Value} {g : Nat → MM β} {r : Option Nat} {As : List Value} {f : β → MM α} {st2 : β → List Value}
    (hcal : ∀ a, Cal G y2 c2 mL2 ret2 F2 L2 cv2 (g a) (.ref a :: As)) (hw : CW y2 c2 mL2 ret2 n) (hF : Nat.ble (F2 + 1) F = true) (hLr : Nat.ble (8 + (mL2 + 11) + L2) Lr = true) (hlk : Cond.methodLink y.cls index y2 ∈ gtbl) (hsel : Cond.selects C y2 y2 ∈ gtbl) (hins : Cond.instanceMethod y2 ∈ gtbl)
    (hn : As.length = n) (hst : As.reverse ++ va_rf r :: st = stk) (hcat : ∀ v ∈ st, v.category = 1) (hc8 : Nat.ble st.length 8 = true) (h2 : ∀ v, (cv2 v).toList ++ st = st2 v) (hd : decode cc pc = .ok (.invokevirtual index, 3)) (hp : pc + 3 = pc')
    (kk : ∀ v, Sn G y cc mL ret F Lr cvt (f v) pc' L (st2 v)) : Sn G y cc mL ret F Lr cvt (mb (wc ci r g) f) pc L stk := by
  subst hp; subst hst
  refine sn_wr (fun h v h1 hq => ?_) kk
  obtain ⟨a, o, rfl, he, hok, hg⟩ := wc_some hq
  obtain ⟨hm, hM⟩ := hcal a h v h1 hg
  refine ⟨hm, fun p l e s m args below meth c H locs cells slots mc ms ls Q hC hR hS hL hb hc hs kw => ?_⟩
  rw [← h2 v] at kw
  refine w_back (y2 := y2) (av := (Value.ref a :: As).toArray) hS hR ?_ kw
  exact va_runV (fixd hC) (hM l) ⟨call_b hC hw hF hLr hlk, hC.2.2.2.2.2.2.2.1 _ hins, hC.2.2.2.2.2.2.2.1 _ hsel⟩ ⟨Pc_blind, w_recv hI hC hR hS he hok, Pc_at hC hR hS⟩ rfl hn hL.1 rfl (call_room hcat hc8) hd ⟨hc, hs⟩
/-- a constructor's call -/
theorem sn_cI {y2 : MethodName} {c2 : ByteArray} {mL2 : Nat} {F2 L2 index n : Nat} {cv2 : β → Option Value} {g : Nat → MM β} {r : Option Nat} {As : List Value} {f : β → MM α} {st2 : β → List Value}
    (hcal : ∀ a, Cal G y2 c2 mL2 none F2 L2 cv2 (g a) (.ref a :: As)) (hw : CW y2 c2 mL2 none n) (hF : Nat.ble (F2 + 1) F = true) (hLr : Nat.ble (8 + (mL2 + 11) + L2) Lr = true) (hlk : Cond.methodLink y.cls index y2 ∈ gtbl ∨ ∃ host, Cond.methodLinkNest y.cls index y2 host ∈ ntbl) (hins : Cond.instanceMethod y2 ∈ gtbl) (hy1 : y2.name = "<init>")
    (hn : As.length = n) (hst : As.reverse ++ va_rf r :: st = stk) (hcat : ∀ v ∈ st, v.category = 1) (hc8 : Nat.ble st.length 8 = true) (h2 : ∀ v, (cv2 v).toList ++ st = st2 v) (hd : decode cc pc = .ok (.invokespecial index, 3)) (hp : pc + 3 = pc')
    (kk : ∀ v, Sn G y cc mL ret F Lr cvt (f v) pc' L (st2 v)) : Sn G y cc mL ret F Lr cvt (mb (wn r g) f) pc L stk := by
  subst hp; subst hst
  refine sn_wr (fun h v h1 hq => ?_) kk
  obtain ⟨a, rfl, hg⟩ := wn_some hq
  obtain ⟨hm, hM⟩ := hcal a h v h1 hg
  refine ⟨hm, fun p l e s m args below meth c H locs cells slots mc ms ls Q hC hR hS hL hb hc hs kw => ?_⟩
  rw [← h2 v] at kw
  refine w_back (y2 := y2) (av := (Value.ref a :: As).toArray) hS hR ?_ kw
  rcases hlk with hlk | ⟨host, hlk⟩
  · exact va_runI (fixd hC) (hM l) ⟨call_b hC hw hF hLr hlk, hy1, hC.2.2.2.2.2.2.2.1 _ hins⟩ ⟨Pc_blind, Pc_at hC hR hS⟩ rfl hn hL.1 rfl (call_room hcat hc8) hd ⟨hc, hs⟩
  · exact va_runIN (fixd hC) (hM l) ⟨call_n hC hw hF hLr hlk, hy1, hC.2.2.2.2.2.2.2.1 _ hins⟩ ⟨Pc_blind, Pc_at hC hR hS⟩ rfl hn hL.1 rfl (call_room hcat hc8) hd ⟨hc, hs⟩
/-- a static call -/
theorem sn_cS {y2 : MethodName} {c2 : ByteArray} {mL2 : Nat} {ret2 : Option FieldType} {F2 L2 index n : Nat} {cv2 : β → Option Value} {g : MM β} {As : List Value} {f : β → MM α} {st2 : β → List Value}
    (hcal : Cal G y2 c2 mL2 ret2 F2 L2 cv2 g As) (hw : CW y2 c2 mL2 ret2 n) (hF : Nat.ble (F2 + 1) F = true) (hLr : Nat.ble (8 + (mL2 + 11) + L2) Lr = true) (hlk : Cond.methodLink y.cls index y2 ∈ gtbl) (hsta : Cond.static y2 ∈ gtbl)
    (hn : As.length = n) (hst : As.reverse ++ st = stk) (hcat : ∀ v ∈ st, v.category = 1) (hc8 : Nat.ble st.length 8 = true) (h2 : ∀ v, (cv2 v).toList ++ st = st2 v) (hd : decode cc pc = .ok (.invokestatic index, 3)) (hp : pc + 3 = pc')
    (kk : ∀ v, Sn G y cc mL ret F Lr cvt (f v) pc' L (st2 v)) : Sn G y cc mL ret F Lr cvt (mb g f) pc L stk := by
  subst hp; subst hst
  refine sn_wr (fun h v h1 hg => ?_) kk
  obtain ⟨hm, hM⟩ := hcal h v h1 hg
  refine ⟨hm, fun p l e s m args below meth c H locs cells slots mc ms ls Q hC hR hS hL hb hc hs kw => ?_⟩
  rw [← h2 v] at kw
  refine w_back (y2 := y2) (av := As.toArray) hS hR ?_ kw
  exact va_runS (fixd hC) (hM l) ⟨call_b hC hw hF hLr hlk, hC.2.2.2.2.2.2.2.1 _ hsta⟩ ⟨Pc_blind, Pc_at hC hR hS⟩ rfl hn hL.1 rfl (call_room hcat hc8) hd ⟨hc, hs⟩
/-- Object's own constructor -/
theorem sn_oI {r : Option Nat} {index : Nat} (hF : Nat.ble 1 F = true) (hlk : Cond.methodLink y.cls index Lib.objectInit ∈ gtbl) (hins : Cond.instanceMethod Lib.objectInit ∈ gtbl) (hcode : Cond.code Lib.objectInit ⟨#[0xb1]⟩ 1 none ∈ gtbl) (hcat : ∀ v ∈ st, v.category = 1) (hLr : Nat.ble (st.length + 12) Lr = true) (hd : decode cc pc = .ok (.invokespecial index, 3)) (hp : pc + 3 = pc')
    (kk : Sn G y cc mL ret F Lr cvt x pc' L st) : Sn G y cc mL ret F Lr cvt (wn r (fun _ => x)) pc L (va_rf r :: st) := fun h r1 h' e => by
  subst hp
  obtain ⟨a, rfl, e⟩ := wn_some e
  obtain ⟨k1, k2⟩ := kk h r1 h' e
  refine ⟨k1, fun p l e s m args below meth c H locs cells slots mc ms ls Q hC hR hS hL hb hc hs kw => ?_⟩
  have hts := hC.2.2.2.2.2.2.2.1
  exact W.objInit hC.1 hC.2.1 hC.2.2.2.2.2.2.1 (hts _ hlk) (hts _ hins) (hts _ hcode) rfl (by rw [hC.2.2.1]; exact hL.1) rfl hd (Nat.le_of_ble_eq_true hF) (by have h1 := Nat.le_of_ble_eq_true hLr; have h2 := cat_sum st hcat; show 2 * 0 + (st.map fun v => v.category).sum + 12 ≤ Lr; omega) (k2 p l e s m args below meth c H locs cells slots mc ms ls Q hC hR hS hL hb hc hs kw)
theorem sn_max {a b : Int32} {index : Nat} (hF : Nat.ble 1 F = true) (hlk : Cond.methodLink y.cls index Lib.Math.max.name ∈ gtbl) (hsta : Cond.static Lib.Math.max.name ∈ gtbl) (hini : Cond.initialized "java/lang/Math" ∈ gtbl) (hcode : Cond.code Lib.Math.max.name Lib.Math.max.code 2 (some .int) ∈ gtbl) (hcat : ∀ v ∈ st, v.category = 1) (hLr : Nat.ble (st.length + 13) Lr = true) (hd : decode cc pc = .ok (.invokestatic index, 3)) (hp : pc + 3 = pc')
    (kk : Sn G y cc mL ret F Lr cvt x pc' L (.int (if a < b then b else a) :: st)) : Sn G y cc mL ret F Lr cvt x pc L (.int b :: .int a :: st) := fun h r1 h' e => by
  subst hp
  obtain ⟨k1, k2⟩ := kk h r1 h' e
  refine ⟨k1, fun p l e s m args below meth c H locs cells slots mc ms ls Q hC hR hS hL hb hc hs kw => ?_⟩
  have hts := hC.2.2.2.2.2.2.2.1
  exact va_mmax hC.1 hC.2.1 (by rw [hC.2.2.1]; exact hL.1.symm) hC.2.2.2.2.2.2.1 (hts _ hlk) (hts _ hsta) (hts _ hini) (hts _ hcode) (Nat.le_of_ble_eq_true hF) (by have h1 := Nat.le_of_ble_eq_true hLr; have h2 := cat_sum st hcat; show (st.map fun v => v.category).sum + 13 ≤ Lr; omega) (by show cells ≤ mc; omega) (by show slots ≤ ms; omega) hd (k2 p l e s m args below meth c H locs cells slots mc ms ls Q hC hR hS hL hb hc hs kw)
theorem sn_min {a b : Int32} {index : Nat} (hF : Nat.ble 1 F = true) (hlk : Cond.methodLink y.cls index Lib.Math.min.name ∈ gtbl) (hsta : Cond.static Lib.Math.min.name ∈ gtbl) (hini : Cond.initialized "java/lang/Math" ∈ gtbl) (hcode : Cond.code Lib.Math.min.name Lib.Math.min.code 2 (some .int) ∈ gtbl) (hcat : ∀ v ∈ st, v.category = 1) (hLr : Nat.ble (st.length + 13) Lr = true) (hd : decode cc pc = .ok (.invokestatic index, 3)) (hp : pc + 3 = pc')
    (kk : Sn G y cc mL ret F Lr cvt x pc' L (.int (if b < a then b else a) :: st)) : Sn G y cc mL ret F Lr cvt x pc L (.int b :: .int a :: st) := fun h r1 h' e => by
  subst hp
  obtain ⟨k1, k2⟩ := kk h r1 h' e
  refine ⟨k1, fun p l e s m args below meth c H locs cells slots mc ms ls Q hC hR hS hL hb hc hs kw => ?_⟩
  have hts := hC.2.2.2.2.2.2.2.1
  exact va_mmin hC.1 hC.2.1 (by rw [hC.2.2.1]; exact hL.1.symm) hC.2.2.2.2.2.2.1 (hts _ hlk) (hts _ hsta) (hts _ hini) (hts _ hcode) (Nat.le_of_ble_eq_true hF) (by have h1 := Nat.le_of_ble_eq_true hLr; have h2 := cat_sum st hcat; show (st.map fun v => v.category).sum + 13 ≤ Lr; omega) (by show cells ≤ mc; omega) (by show slots ≤ ms; omega) hd (k2 p l e s m args below meth c H locs cells slots mc ms ls Q hC hR hS hL hb hc hs kw)
end SD
