section SJ
variable {α β : Type} {G : GG} {y : MethodName} {cc : ByteArray} {mL : Nat} {ret : Option FieldType} {F Lr : Nat} {cvt : α → Option Value} {x : MM α} {pc pc' : Nat} {L L' : List (Option Value)} {st stk : List Value}
variable {p : Program} {l : Launch} {e : Env} {R : Room} {s : State} {m : MethodId} {args : Array Value} {below : List Frame} {meth : Method} {c : Code} {H : Heap} {locs : List Loc} {cells slots : Nat} {Q : State → Prop} {ls : Array Slot} {h : AH}
/-- methods of the builders' common part that none but itself sees, on a StringBuilder -/
theorem sel_sb {y2 yq : MethodName} {C sup : String} {n : Nat} (hy : y2.cls = sup) (hno : sup ≠ "java/lang/invoke/MethodHandle" ∧ sup ≠ "java/lang/invoke/VarHandle") (hin : (Cond.instantiable C n).before args s = true) (hsu : (Cond.superclass C sup).before args s = true) (hpr : (Cond.privateMethod y2).before args s = true) (hins : (Cond.instanceMethod y2).before args s = true) (hq : yq.cls = sup) (hqs : (Cond.selects C yq yq).before args s = true) : (Cond.selects C y2 y2).before args s = true := by
  obtain ⟨c, k, hc, hk, hord, hniab, -, -⟩ := Cond.instantiable_spec hin
  obtain ⟨ps, kk, kp, hps, hk2, hkp, hsup, -, hkpo, hnid⟩ := Cond.superclass_spec hc hsu
  obtain ⟨mk, methM, hnamed, hmethM, -, hab⟩ := Cond.instanceMethod_spec hins
  have hfound : s.methodFound? y2.cls y2.name y2.desc = some mk := State.methodFound?_of_named hnamed (by rw [hy]; exact hno)
  have hcls : mk.cls = ps := Option.some.inj ((findClass_of_methodNamed hnamed).symm.trans (by rw [hy]; exact hps))
  have hsel : selectMethod {} s.vm c mk = .method mk := selectMethod_private hmethM (Cond.privateMethod_at hpr mk methM hnamed hmethM)
  obtain ⟨c2, r2, m2, q1, q2, q3, q4, kP, hkP, hkPi⟩ := Cond.selects_spec hqs
  have hcls2 : m2.cls = ps := Option.some.inj ((findClass_of_methodNamed q3).symm.trans (by rw [hq]; exact hps))
  rw [hcls2] at hkP
  cases hkP.symm.trans hkp
  simp only [Cond.before, Cond.holds, Cond.value, hc, hfound, hnamed, hsel, hcls, hkp]
  simp
  exact hkPi
/-- the superclass's own method -/
theorem sn_cU {ci : Nat} {C : String} {T : u_T} {N : Nat} {ty : Nat → FieldType} (hI : CI ci C T N ty) {y2 : MethodName} {c2 : ByteArray} {mL2 : Nat} {ret2 : Option FieldType} {F2 L2 index n : Nat} {cv2 : β → Option Value} {g : Nat → MM β} {r : Option Nat} {As : List Value} {f : β → MM α} {st2 : β → List Value}
    (hcal : ∀ a, Cal G y2 c2 mL2 ret2 F2 L2 cv2 (g a) (.ref a :: As)) (hw : CW y2 c2 mL2 ret2 n) (hF : Nat.ble (F2 + 1) F = true) (hLr : Nat.ble (8 + (mL2 + 11) + L2) Lr = true) (hlk : Cond.methodLink y.cls index y2 ∈ gtbl) (hsm : Cond.sameMethod y2.cls y2.cls y2.name y2.desc ∈ gtbl) (hsu : Cond.superclass y.cls y2.cls ∈ gtbl) (hins : Cond.instanceMethod y2 ∈ gtbl) (hno : y2.name ≠ "<init>")
    (hn : As.length = n) (hst : As.reverse ++ va_rf r :: st = stk) (hcat : ∀ v ∈ st, v.category = 1) (hc8 : Nat.ble st.length 8 = true) (h2 : ∀ v, (cv2 v).toList ++ st = st2 v) (hd : decode cc pc = .ok (.invokespecial index, 3)) (hp : pc + 3 = pc')
    (kk : ∀ v, Sn G y cc mL ret F Lr cvt (f v) pc' L (st2 v)) : Sn G y cc mL ret F Lr cvt (mb (wc ci r g) f) pc L stk := by
  subst hp; subst hst
  refine sn_wr (fun h v h1 hq => ?_) kk
  obtain ⟨a, o, rfl, he, hok, hg⟩ := wc_some hq
  obtain ⟨hm, hM⟩ := hcal a h v h1 hg
  refine ⟨hm, fun p l e s m args below meth c H locs cells slots mc ms ls Q hC hR hS hL hb hc hs kw => ?_⟩
  rw [← h2 v] at kw
  have hts := hC.2.2.2.2.2.2.2.1
  have hat := (hC.2.2.2.2.2.2.2.2.1.1 _ _ hI.1).2
  have hB := call_b (mc := h1.1 - h.1) (ms := h1.2.1 - h.2.1) (k := mc) (w := ms) hC hw hF hLr hlk
  refine w_back (y2 := y2) (av := (Value.ref a :: As).toArray) hS hR ?_ kw
  exact va_runSU (n := n) hat (fixd hC) (hM l) ⟨⟨hB.1, hB.2.1, hB.2.2.1, hB.2.2.2.1, hB.2.2.2.2.1, hB.2.2.2.2.2.1⟩, hts _ hlk, hts _ hsm, hts _ hsu, hts _ hins, hts _ hw.2.1, hts _ hw.1, hno, n_of hw.2.2.2⟩ ⟨Pc_blind, w_recv hI hC hR hS he hok, Pc_at hC hR hS⟩ rfl hn hL.1 rfl (call_room hcat hc8) hd ⟨hc, hs⟩
/-- an overriding method, named by the one that it overrides -/
theorem sn_cO {ci : Nat} {C : String} {T : u_T} {N : Nat} {ty : Nat → FieldType} (hI : CI ci C T N ty) {y1 y2 : MethodName} {c2 : ByteArray} {mL2 : Nat} {ret2 : Option FieldType} {F2 L2 index n : Nat} {cv2 : β → Option Value} {g : Nat → MM β} {r : Option Nat} {As : List Value} {f : β → MM α} {st2 : β → List Value}
    (hcal : ∀ a, Cal G y2 c2 mL2 ret2 F2 L2 cv2 (g a) (.ref a :: As)) (hw : CW y2 c2 mL2 ret2 n) (hF : Nat.ble (F2 + 1) F = true) (hLr : Nat.ble (8 + (mL2 + 11) + L2) Lr = true) (hlk : Cond.methodLink y.cls index y1 ∈ gtbl) (hsm : Cond.sameMethod y1.cls y1.cls y1.name y1.desc ∈ gtbl) (hsel : Cond.selects C y1 y2 ∈ gtbl) (hins : Cond.instanceMethod y2 ∈ gtbl) {b1 : ByteArray} {m1 : Nat} {r1 : Option FieldType} (hc1 : Cond.code y1 b1 m1 r1 ∈ gtbl) (hi1 : Cond.instanceMethod y1 ∈ gtbl) (hno : y1.cls ≠ "java/lang/invoke/MethodHandle" ∧ y1.cls ≠ "java/lang/invoke/VarHandle") (hds : (parseMethodDescriptor y1.desc).map (fun d => d.parameters.length) = some n)
    (hn : As.length = n) (hst : As.reverse ++ va_rf r :: st = stk) (hcat : ∀ v ∈ st, v.category = 1) (hc8 : Nat.ble st.length 8 = true) (h2 : ∀ v, (cv2 v).toList ++ st = st2 v) (hd : decode cc pc = .ok (.invokevirtual index, 3)) (hp : pc + 3 = pc')
    (kk : ∀ v, Sn G y cc mL ret F Lr cvt (f v) pc' L (st2 v)) : Sn G y cc mL ret F Lr cvt (mb (wc ci r g) f) pc L stk := by
  subst hp; subst hst
  refine sn_wr (fun h v h1 hq => ?_) kk
  obtain ⟨a, o, rfl, he, hok, hg⟩ := wc_some hq
  obtain ⟨hm, hM⟩ := hcal a h v h1 hg
  refine ⟨hm, fun p l e s m args below meth c H locs cells slots mc ms ls Q hC hR hS hL hb hc hs kw => ?_⟩
  rw [← h2 v] at kw
  have hts := hC.2.2.2.2.2.2.2.1
  have hcw : va_CU { frames := F, cells := mc, slots := ms, locals := Lr } s args y.cls C y1.cls index y1 y2 c2 mL2 ret2 (.code y2 c2 mL2 ret2 :: gtbl) { frames := F2, cells := h1.1 - h.1, slots := h1.2.1 - h.2.1, locals := L2 } (h1.1 - h.1) (h1.2.1 - h.2.1) n :=
    ⟨⟨rfl, rfl, Nat.le_of_ble_eq_true hF, Nat.le_of_ble_eq_true hLr, g_ws hC hw.1, List.mem_cons_self⟩, hts _ hw.1, hts _ hw.2.1, hno, n_of hds, hts _ hlk, hts _ hsm, va_Decl.of (hts _ hi1) (hts _ hc1), hts _ hsel, hts _ hins⟩
  refine w_back (y2 := y2) (av := (Value.ref a :: As).toArray) hS hR ?_ kw
  exact va_runU (fixd hC) (hM l) hcw ⟨Pc_blind, w_recv hI hC hR hS he hok, Pc_at hC hR hS⟩ rfl hn hL.1 rfl (call_room hcat hc8) hd ⟨hc, hs⟩
theorem sn_acmp_ne {a b : Option Nat} {A B : MM α} {off : Int} {pt pf : Nat} (hd : decode cc pc = .ok (.if_acmp .ne off, 3)) (ht : (pc : Int) + off = (pt : Int)) (hp : pc + 3 = pf) (kt : Sn G y cc mL ret F Lr cvt A pf L st) (kf : Sn G y cc mL ret F Lr cvt B pt L st) : Sn G y cc mL ret F Lr cvt (if a = b then A else B) pc L (va_rf b :: va_rf a :: st) := by
  subst hp
  exact sn_br (fun p l e R s m args below meth cd H locs cells slots ls Q hC h1 h2 => lv_acmp_ne hC.1 hC.2.1 hd ht h2 h1) kt kf
/-- an object of class ci: instanceof, checkcast -/
def isO (ci : Nat) (r : Option Nat) : MM Unit := wc ci r (fun _ => mr ())
theorem sn_inst {ci : Nat} {C : String} {T : u_T} {N : Nat} {ty : Nat → FieldType} (hI : CI ci C T N ty) {r : Option Nat} {index : Nat} {f : Unit → MM α} (hcl : Cond.classLink y.cls index C ∈ gtbl) (hd : decode cc pc = .ok (.instanceof index, 3)) (hp : pc + 3 = pc') (kk : ∀ v, Sn G y cc mL ret F Lr cvt (f v) pc' L (.int 1 :: st)) : Sn G y cc mL ret F Lr cvt (mb (isO ci r) f) pc L (va_rf r :: st) := by
  subst hp
  refine sn_rd (st2 := fun _ => .int 1 :: st) (fun h v h' hq => ?_) kk
  obtain ⟨a, o, rfl, he, hok, hg⟩ := wc_some hq
  cases hg
  exact ⟨rfl, fun p l e R s m args below meth c H locs cells slots ls Q hC hR hS kw => va_instE hC.1 hC.2.1 hC.2.2.2.2.2.2.1 (hC.2.2.2.2.2.2.2.1 _ hcl) (w_recv hI hC hR hS he hok) hd kw⟩
theorem sn_cast {ci : Nat} {C : String} {T : u_T} {N : Nat} {ty : Nat → FieldType} (hI : CI ci C T N ty) {r : Option Nat} {index : Nat} {f : Unit → MM α} (hcl : Cond.classLink y.cls index C ∈ gtbl) (hd : decode cc pc = .ok (.checkcast index, 3)) (hp : pc + 3 = pc') (kk : ∀ v, Sn G y cc mL ret F Lr cvt (f v) pc' L (va_rf r :: st)) : Sn G y cc mL ret F Lr cvt (mb (isO ci r) f) pc L (va_rf r :: st) := by
  subst hp
  refine sn_rd (st2 := fun _ => va_rf r :: st) (fun h v h' hq => ?_) kk
  obtain ⟨a, o, rfl, he, hok, hg⟩ := wc_some hq
  cases hg
  exact ⟨rfl, fun p l e R s m args below meth c H locs cells slots ls Q hC hR hS kw => va_castE hC.1 hC.2.1 hC.2.2.2.2.2.2.1 (hC.2.2.2.2.2.2.2.1 _ hcl) (w_recv hI hC hR hS he hok) hd kw⟩
/-- System.arraycopy between rows of ints (0) or of bytes (1, 11) -/
def cpy (r0 : Option Nat) (sp : Int32) (r1 : Option Nat) (dp n : Int32) : MM Unit := fun h => match r0, r1 with
  | some a, some b => match ce h a, ce h b with
    | .inl (t0, n0, .inl f), .inl (t1, n1, .inl g) => if ((t0 = 0 ∧ t1 = 0) ∨ (t0 = 1 ∧ t1 = 1 ∧ ∀ i, i < n.toNatClampNeg → (f (sp.toNatClampNeg + i)).toInt8.toInt32 = f (sp.toNatClampNeg + i)) ∨ (t0 = 11 ∧ t1 = 1)) ∧ ¬ sp < 0 ∧ ¬ dp < 0 ∧ ¬ n < 0 ∧ sp.toNatClampNeg + n.toNatClampNeg ≤ n0 ∧ dp.toNatClampNeg + n.toNatClampNeg ≤ n1 then
        some ((), hs h b (.inl (t1, n1, .inl (va_cpy f g sp.toNatClampNeg dp.toNatClampNeg n.toNatClampNeg)))) else none
    | _, _ => none
  | _, _ => none
theorem nnc : ∀ z : Int32, ¬ z < 0 → z.toInt = (z.toNatClampNeg : Int) := by
  intro z hz
  have hz0 : (0 : Int) ≤ z.toInt := by
    have := Int32.not_lt.mp hz
    simpa using Int32.le_iff_toInt_le.mp this
  show z.toInt = ((z.toInt.toNat : Nat) : Int)
  omega
theorem byte_fits {v : Int32} (h : v.toInt8.toInt32 = v) : fits .byte (.int v) = true := by
  have h2 := fits_narrow_byte v
  have h3 : narrow .byte (.int v) = .int v := by show Value.int v.toInt8.toInt32 = _; rw [h]
  rwa [h3] at h2
theorem sn_cpy {r0 r1 : Option Nat} {sp dp n : Int32} {index : Nat} {f : Unit → MM α} (hlk : Cond.methodLink y.cls index arraycopyName ∈ gtbl) (hnat : Cond.native arraycopyName ∈ gtbl) (hsta : Cond.static arraycopyName ∈ gtbl) (hini : Cond.initialized "java/lang/System" ∈ gtbl) (hF : Nat.ble 1 F = true) (hcat : ∀ v ∈ st, v.category = 1) (hLr : Nat.ble (st.length + (nativeFrameWords "java/lang/System" "arraycopy" 5 + 11)) Lr = true) (hd : decode cc pc = .ok (.invokestatic index, 3)) (hp : pc + 3 = pc')
    (kk : ∀ v, Sn G y cc mL ret F Lr cvt (f v) pc' L st) : Sn G y cc mL ret F Lr cvt (mb (cpy r0 sp r1 dp n) f) pc L (.int n :: .int dp :: va_rf r1 :: .int sp :: va_rf r0 :: st) := by
  subst hp
  refine sn_wr (st2 := fun _ => st) (fun h v h1 hq => ?_) kk
  unfold cpy at hq
  split at hq
  · rename_i a0 a
    split at hq
    · rename_i t0 n0 fa t1 n1 ga he0 he1
      split at hq
      · rename_i hcond
        cases hq
        obtain ⟨htt, h1, h2, h3, h4, h5⟩ := hcond
        refine ⟨⟨Nat.le_refl _, Nat.le_refl _⟩, fun p l e s m args below meth c H locs cells slots mc ms ls Q hC hR hS hL hb hc hs2 kw => ?_⟩
        have hts := hC.2.2.2.2.2.2.2.1
        have hB := hC.2.2.2.2.2.2.2.2
        have e1 : (hs h a (.inl (t1, n1, .inl (va_cpy fa ga sp.toNatClampNeg dp.toNatClampNeg n.toNatClampNeg)))).1 - h.1 = 0 := Nat.sub_self _
        have e2 : (hs h a (.inl (t1, n1, .inl (va_cpy fa ga sp.toNatClampNeg dp.toNatClampNeg n.toNatClampNeg)))).2.1 - h.2.1 = 0 := Nat.sub_self _
        rw [e1, e2] at kw
        have ht15 : t1 < 5 := by
          rcases htt with ⟨_, q⟩ | ⟨_, q, _⟩ | ⟨_, q⟩ <;> (rw [q]; decide)
        obtain ⟨hb1, hb2, hat⟩ := ar_of hR hC he1 ht15
        have hc1 : H[a]? = some (vp_cell (G.2.2.1 t1) (n1, .inl ga)) := hat
        have hlr : (st.map fun v => v.category).sum + (nativeFrameWords "java/lang/System" "arraycopy" 5 + 11) ≤ Lr := by rw [cat_sum st hcat]; exact Nat.le_of_ble_eq_true hLr
        have key : ∃ (scr : Cell) (ty : FieldType), H[a0]? = some scr ∧ s.isArrayOf scr ty ∧ scr.vm ≠ .unknown ∧ refKind ty = false ∧ n0 ≤ scr.slots.size ∧ (∀ j : Nat, j < n0 → scr.slots[j]? = some (.int (fa j))) ∧ (gT G)[t1]? = some (G.2.2.1 t1, ty) ∧ ∀ i, i < n.toNatClampNeg → fits ty (.int (fa (sp.toNatClampNeg + i))) = true := by
          rcases htt with ⟨q0, q1⟩ | ⟨q0, q1, q2⟩ | ⟨q0, q1⟩
          · subst q0; subst q1
            obtain ⟨hb3, hb4, hat0⟩ := ar_of hR hC he0 (by decide)
            have hat0 : H[a0]? = some (arrV _ n0 (fun j => .int (fa j))) := hat0
            exact ⟨_, .int, hat0, (hB.1.2 0 _ rfl).1 n0 _, (fun h => by cases h), rfl, Nat.le_of_eq (arrV_size _ _ _).symm, fun j hj => arrV_read _ _ hj, rfl, fun i hi => rfl⟩
          · subst q0; subst q1
            obtain ⟨hb3, hb4, hat0⟩ := ar_of hR hC he0 (by decide)
            have hat0 : H[a0]? = some (arrV _ n0 (fun j => .int (fa j))) := hat0
            exact ⟨_, .byte, hat0, (hB.1.2 1 _ rfl).1 n0 _, (fun h => by cases h), rfl, Nat.le_of_eq (arrV_size _ _ _).symm, fun j hj => arrV_read _ _ hj, rfl, fun i hi => byte_fits (q2 i hi)⟩
          · subst q0; subst q1
            rcases kt_of hR hC he0 (by decide) with ⟨q, -⟩ | ⟨-, hft, cell, g1, g2, g3, g4, g5, g6, g7⟩
            · cases q
            · exact ⟨cell, .byte, by rw [hS.2.1 a0 (Array.getElem?_eq_some_iff.mp g1).1 g7]; exact g1, g2, g3, rfl, g4, g6, rfl, fun i hi => hft _⟩
        obtain ⟨scr, ty, hc0, hs2', hs3, hprim, hs4, hs5, hty, hfit⟩ := key
        intro T hT X
        obtain ⟨hs6, k0, hk0, cm0, hkk0⟩ := hs2'
        obtain ⟨-, k1, hk1, cm1, hkk1⟩ := (hB.1.2 t1 _ hty).1 n1 (fun j => .int (ga j))
        obtain ⟨vm', X', step⟩ := X.arraycopy hC.1 hC.2.2.2.2.2.2.1 (hts _ hlk) (hts _ hnat) (hts _ hsta) (hts _ hini) (src := a0) (dst := a) (cs := scr) (cd := vp_cell (G.2.2.1 t1) (n1, .inl ga)) (srcPos := sp) (destPos := dp) (n := n) (by rw [hT]; exact hc0) (by rw [hT]; exact hc1)
          hs6 (fun _ h => by cases h) hs3 (fun h => by cases h) hk0 hk1 hkk0 hkk1 (by simp [hprim]) h1 h2 h3
          (by rw [nnc sp h1, nnc n h3]; omega)
          (by rw [nnc dp h2, nnc n h3]; show ¬ _ > ((arrV (G.2.2.1 t1) n1 (fun j => .int (ga j))).slots.size : Int); rw [arrV_size]; omega)
          (fun vm₁ _ i hi => by
            have e : scr.slots.getD (sp.toNatClampNeg + i) .null = .int (fa (sp.toNatClampNeg + i)) := by
              rw [Array.getD_eq_getD_getElem?, hs5 _ (by omega)]
              rfl
            refine ⟨?_, ?_⟩
            · rw [e]
              exact hfit i hi
            · rw [e]
              exact trivial)
          (g := F0 m pc ls (.int n :: .int dp :: .ref a :: .int sp :: .ref a0 :: st)) rfl (by rw [hC.2.2.1]; exact hL.1) (rest := st) rfl (by rw [hC.2.1]; exact hd) (Nat.le_of_ble_eq_true hF) (by show 2 * 0 + (st.map fun v => v.category).sum + _ ≤ Lr; omega)
        have e1 : copied scr (vp_cell (G.2.2.1 t1) (n1, .inl ga)) sp dp n = vp_cell (G.2.2.1 t1) (n1, .inl (va_cpy fa ga sp.toNatClampNeg dp.toNatClampNeg n.toNatClampNeg)) := va_copiedX (fun z => .int z) scr (G.2.2.1 t1) fa ga hs5 h4
        rw [e1] at X' step
        have hl : a < H.size := (Array.getElem?_eq_some_iff.mp hc1).1
        have hheap : ((T.setVm vm').setCell a (vp_cell (G.2.2.1 t1) (n1, .inl (va_cpy fa ga sp.toNatClampNeg dp.toNatClampNeg n.toNatClampNeg)))).heap = H.setIfInBounds a (vp_cell (G.2.2.1 t1) (n1, .inl (va_cpy fa ga sp.toNatClampNeg dp.toNatClampNeg n.toNatClampNeg))) := by rw [← hT]; rfl
        have oq : ∀ q : Nat, q ≠ a → (H.setIfInBounds a (vp_cell (G.2.2.1 t1) (n1, .inl (va_cpy fa ga sp.toNatClampNeg dp.toNatClampNeg n.toNatClampNeg))))[q]? = H[q]? := fun q hq => by simp [Array.getElem?_setIfInBounds, Ne.symm hq]
        obtain ⟨t, a1, b1⟩ := kw _ _ (hR.put hb1 hb2 (show (H.setIfInBounds a _)[a]? = some _ by simp [Array.getElem?_setIfInBounds, hl]) ht15 (by simp) oq) ⟨by simp; exact hS.1, fun q g1 g2 => by
            rw [oq q (fun e => g2 (by rw [e]; exact hb1))]
            exact hS.2.1 q g1 g2, fun q hq => by
            rcases List.mem_append.mp hq with h | h
            · exact hS.2.2 q h
            · obtain ⟨z, -, hz⟩ := List.mem_map.mp h
              rw [← hz]
              exact hb1⟩ _ hheap X'
        exact ⟨t, step t a1, b1⟩
      · cases hq
    · cases hq
  · cases hq
/-- a row of bytes -/
def aBn (r : Option Nat) : MM Int32 := fun h => match r with
  | none => none
  | some a => match ce h a with
    | .inl (t, _, .inl _) => if t = 1 then some (0, h) else none
    | _ => none
/-- the clone of a row of bytes -/
def cln (r : Option Nat) : MM (Option Nat) := fun h => match r with
  | none => none
  | some a => match ce h a with
    | .inl (t, n, .inl f) => if t = 1 ∧ ∀ i, i < n → (f i).toInt8.toInt32 = f i then some (some h.1, hn h n (.inl (1, n, .inl f))) else none
    | _ => none
theorem sn_cln {r : Option Nat} {index : Nat} {f : Option Nat → MM α} (hlk : Cond.methodLink y.cls index ⟨"[B", "clone", "()Ljava/lang/Object;"⟩ ∈ gtbl) (hsm : Cond.sameMethod "[B" "java/lang/Object" "clone" "()Ljava/lang/Object;" ∈ gtbl) (hnat : Cond.native ⟨"java/lang/Object", "clone", "()Ljava/lang/Object;"⟩ ∈ gtbl) (hins : Cond.instanceMethod ⟨"java/lang/Object", "clone", "()Ljava/lang/Object;"⟩ ∈ gtbl) (hsel : Cond.selects "[B" ⟨"[B", "clone", "()Ljava/lang/Object;"⟩ ⟨"java/lang/Object", "clone", "()Ljava/lang/Object;"⟩ ∈ gtbl) (hca : Cond.castable "[B" "java/lang/Cloneable" ∈ ntbl)
    (hF : Nat.ble 1 F = true) (hcat : ∀ v ∈ st, v.category = 1) (hLr : Nat.ble (st.length + 14) Lr = true) (hd : decode cc pc = .ok (.invokevirtual index, 3)) (hp : pc + 3 = pc')
    (kk : ∀ v, Sn G y cc mL ret F Lr cvt (f v) pc' L (va_rf v :: st)) : Sn G y cc mL ret F Lr cvt (mb (cln r) f) pc L (va_rf r :: st) := by
  subst hp
  refine sn_wr (st2 := fun v => va_rf v :: st) (fun h v h1 hq => ?_) kk
  unfold cln at hq
  split at hq
  · cases hq
  · rename_i a
    split at hq
    · rename_i t n ga he
      split at hq
      · rename_i ht
        cases hq
        obtain ⟨t1, hft⟩ := ht
        subst t1
        refine ⟨⟨Nat.le_succ _, Nat.le_add_right _ _⟩, fun p l e s m args below meth c H locs cells slots mc ms ls Q hC hR hS hL hb hc hs2 kw => ?_⟩
        rw [hn_c] at hc kw
        rw [hn_s] at hs2 kw
        have hts := hC.2.2.2.2.2.2.2.1
        have hB := hC.2.2.2.2.2.2.2.2
        obtain ⟨hb1, hb2, hat⟩ := ar_of hR hC he (by decide)
        have hc1 : H[a]? = some (vp_cell (G.2.2.1 1) (n, .inl ga)) := hat
        have hK := hB.1.2 1 _ rfl
        have hnm : s.vm.findClass "[B" = some (G.2.2.1 1) := va_nm_byte hK.2
        have hsz : (vp_cell (G.2.2.1 1) (n, .inl ga)).slots.size = n := arrV_size _ _ _
        have hcellE : ({ cls := (vp_cell (G.2.2.1 1) (n, .inl ga)).cls, slots := (vp_cell (G.2.2.1 1) (n, .inl ga)).slots } : Cell) = vp_cell (G.2.2.1 1) (n, .inl ga) := rfl
        obtain ⟨c0, t0', f1, f2, f3⟩ := Cond.castable_spec (va_Nw.use (A := args) rfl (hB.2.1 _ hca))
        cases hnm.symm.trans f1
        intro T hT X
        have hcellT : T.heap[a]? = some (vp_cell (G.2.2.1 1) (n, .inl ga)) := by rw [hT]; exact hc1
        obtain ⟨-, kA, hkA, comp, hkind⟩ := State.isArrayOf_alike X.warmed.alike (hK.1 0 (fun _ => .null))
        obtain ⟨-, kS, hkS, compS, hkindS⟩ := hK.1 0 (fun _ => .null)
        obtain ⟨vm', X', step⟩ := X.cloneArray hC.1 hC.2.2.2.2.2.2.1 (hts _ hlk) (hts _ hsm) (hts _ hnat) (hts _ hins) (hts _ hsel) (a := a) (cell := vp_cell (G.2.2.1 1) (n, .inl ga)) hcellT (fun k h => by cases h) (fun h => by cases h) hnm f2 f3
          (fun i v hv => by
            have hk' : T.vm.classes[G.2.2.1 1]? = some kA := hkA
            have hv' : (arrV (G.2.2.1 1) n (fun j => .int (ga j))).slots[i]? = some v := hv
            have hi : i < n := by
              have := (Array.getElem?_eq_some_iff.mp hv').1
              rwa [arrV_size] at this
            rw [arrV_read _ _ hi] at hv'
            cases hv'
            have h9 := byte_fits (hft i hi)
            show T.fitsSlot (G.2.2.1 1) .none i _ = true
            simpa [State.fitsSlot, State.slotType?, hk', hkind] using h9)
          (g := F0 m pc ls (.ref a :: st)) rfl (by rw [hC.2.2.1]; exact hL.1) rfl (by rw [hC.2.1]; exact hd) (Nat.le_of_ble_eq_true hF) (by have h1 := Nat.le_of_ble_eq_true hLr; have h2 := cat_sum st hcat; show 2 * 0 + (st.map fun v => v.category).sum + 14 ≤ Lr; omega) hc (by rw [hsz]; exact hs2) (hloader := Vm.clonesLoader_of_array hkS hkindS)
        rw [hcellE, hsz] at X'
        generalize hH1 : H.push (vp_cell (G.2.2.1 1) (n, .inl ga)) = H1
        have z1 : H1.size = h.1 + 1 := by rw [← hH1, Array.size_push, hR.2.1]
        have e1 : H1[h.1]? = some (vp_cell (G.2.2.1 1) (n, .inl ga)) := by rw [← hR.2.1, ← hH1, Array.getElem?_push_size]
        have o1 : ∀ q : Nat, q < h.1 → H1[q]? = H[q]? := fun q hq => by rw [← hH1, Array.getElem?_push, if_neg (by rw [hR.2.1]; omega)]
        obtain ⟨t, b1, b2⟩ := kw H1 locs (hR.new e1 (by show (1 : Nat) < 5; decide) z1 o1) (S_new hR hS z1 o1) ((T.setVm vm').pushCell (vp_cell (G.2.2.1 1) (n, .inl ga))) (by rw [← hH1, ← hT]; rfl) X'
        refine ⟨t, step t ?_, b2⟩
        rw [hcellE, hT, hR.2.1]
        exact b1
      · cases hq
    · cases hq
/-- its cast -/
theorem sn_castB {r : Option Nat} {index : Nat} {f : Int32 → MM α} (hcl : Cond.classLink y.cls index "[B" ∈ gtbl) (hd : decode cc pc = .ok (.checkcast index, 3)) (hp : pc + 3 = pc') (kk : ∀ v, Sn G y cc mL ret F Lr cvt (f v) pc' L (va_rf r :: st)) : Sn G y cc mL ret F Lr cvt (mb (aBn r) f) pc L (va_rf r :: st) := by
  subst hp
  refine sn_rd (st2 := fun _ => va_rf r :: st) (fun h v h' hq => ?_) kk
  unfold aBn at hq
  split at hq
  · cases hq
  · rename_i a
    split at hq
    · rename_i t n ga he
      split at hq
      · rename_i ht
        cases hq
        refine ⟨rfl, fun p l e R s m args below meth c H locs cells slots ls Q hC hR hS kw => ?_⟩
        subst ht
        have hB := hC.2.2.2.2.2.2.2.2
        exact va_castA hC.1 hC.2.1 hC.2.2.2.2.2.2.1 (hC.2.2.2.2.2.2.2.1 _ hcl) (one_P (ar_of hR hC he (by decide)).2.2) 0 rfl (va_nm_byte (hB.1.2 1 _ rfl).2) hd kw
      · cases hq
    · cases hq
end SJ
