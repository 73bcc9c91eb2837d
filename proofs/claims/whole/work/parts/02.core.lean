/-! ===== the heap as a function, programs over it, and what it means that code at a place does what a program says ===== -/
abbrev AH : Type := Nat × Nat × (Nat → va_E) × (Nat → Option Nat)
abbrev MM (α : Type) : Type := AH → Option (α × AH)
abbrev inb (i : Int32) (n : Nat) : Prop := ¬ (i < 0 ∨ n ≤ i.toNatClampNeg)
def ce (h : AH) : Nat → va_E := h.2.2.1
def hs (h : AH) (a : Nat) (e : va_E) : AH := (h.1, h.2.1, (fun b => if b = a then e else h.2.2.1 b), h.2.2.2)
def hn (h : AH) (n : Nat) (e : va_E) : AH := (h.1 + 1, h.2.1 + n, (fun b => if b = h.1 then e else h.2.2.1 b), h.2.2.2)
theorem ce_hs (h : AH) (a b : Nat) (e : va_E) : ce (hs h a e) b = if b = a then e else ce h b := rfl
theorem ce_hn (h : AH) (n b : Nat) (e : va_E) : ce (hn h n e) b = if b = h.1 then e else ce h b := rfl
def mr {α : Type} (a : α) : MM α := fun h => some (a, h)
def mf {α : Type} : MM α := fun _ => none
def mb {α β : Type} (x : MM α) (f : α → MM β) : MM β := fun h => match x h with
  | none => none
  | some q => f q.1 q.2
def wn {α : Type} (r : Option Nat) (f : Nat → MM α) : MM α := match r with
  | none => mf
  | some a => f a
def okc (ci c : Nat) : Bool := c == ci || (ci == 0 && c == 14)
def gV (ci : Nat) (r : Option Nat) (k : Nat) : MM Value := fun h => match r with
  | none => none
  | some a => match ce h a with
    | .inl _ => none
    | .inr o => if okc ci o.1 = true then (match o.2[k]? with | none => none | some v => some (v, h)) else none
def gI (ci : Nat) (r : Option Nat) (k : Nat) : MM Int32 := fun h => match gV ci r k h with
  | some (.int x, h') => some (x, h')
  | _ => none
def gR (ci : Nat) (r : Option Nat) (k : Nat) : MM (Option Nat) := fun h => match gV ci r k h with
  | some (.ref a, h') => some (some a, h')
  | some (.null, h') => some (none, h')
  | _ => none
def pV (ci : Nat) (r : Option Nat) (k : Nat) (v : Value) : MM Unit := fun h => match r with
  | none => none
  | some a => match ce h a with
    | .inl _ => none
    | .inr o => if o.1 = ci ∧ k < o.2.length then some ((), hs h a (.inr (o.1, o.2.set k v))) else none
/-- a field of ints; of booleans (0, 1); of bytes; of references -/
def pI (ci : Nat) (r : Option Nat) (k : Nat) (x : Int32) : MM Unit := pV ci r k (.int x)
def pZ (ci : Nat) (r : Option Nat) (k : Nat) (x : Int32) : MM Unit := if x = 0 ∨ x = 1 then pV ci r k (.int x) else mf
def pB (ci : Nat) (r : Option Nat) (k : Nat) (x : Int32) : MM Unit := if x.toInt8.toInt32 = x then pV ci r k (.int x) else mf
def pR (ci : Nat) (r : Option Nat) (k : Nat) (x : Option Nat) : MM Unit := pV ci r k (va_rf x)
/-- an element of an array of ints (0, 10), of bytes or booleans (1, 11, 2), of references (3, 4) -/
def aI (r : Option Nat) (i : Int32) : MM Int32 := fun h => match r with
  | none => none
  | some a => match ce h a with
    | .inl (t, n, .inl f) => if (t = 0 ∨ t = 10) ∧ inb i n then some (f i.toNatClampNeg, h) else none
    | _ => none
def aB (r : Option Nat) (i : Int32) : MM Int32 := fun h => match r with
  | none => none
  | some a => match ce h a with
    | .inl (t, n, .inl f) => if (t = 1 ∨ t = 2 ∨ t = 11) ∧ inb i n then some (f i.toNatClampNeg, h) else none
    | _ => none
def aR (r : Option Nat) (i : Int32) : MM (Option Nat) := fun h => match r with
  | none => none
  | some a => match ce h a with
    | .inl (t, n, .inr (.inr (.inr (.inr f)))) => if (t = 3 ∨ t = 4) ∧ inb i n then some (f i.toNatClampNeg, h) else none
    | _ => none
def sI (r : Option Nat) (i x : Int32) : MM Unit := fun h => match r with
  | none => none
  | some a => match ce h a with
    | .inl (t, n, .inl f) => if t = 0 ∧ inb i n then some ((), hs h a (.inl (t, n, .inl (upd f i.toNatClampNeg x)))) else none
    | _ => none
def sB (r : Option Nat) (i x : Int32) : MM Unit := fun h => match r with
  | none => none
  | some a => match ce h a with
    | .inl (t, n, .inl f) => if t = 1 ∧ inb i n then some ((), hs h a (.inl (t, n, .inl (upd f i.toNatClampNeg (vp_nar .byte x)))))
        else if t = 2 ∧ inb i n then some ((), hs h a (.inl (t, n, .inl (upd f i.toNatClampNeg (vp_nar .boolean x))))) else none
    | _ => none
def ciOf (t : Nat) : Nat := if t = 3 then 2 else 4
def sR (r : Option Nat) (i : Int32) (x : Option Nat) : MM Unit := fun h => match r, x with
  | some a, some b => match ce h a, ce h b with
    | .inl (t, n, .inr (.inr (.inr (.inr f)))), .inr o => if (t = 3 ∨ t = 4) ∧ o.1 = ciOf t ∧ inb i n then some ((), hs h a (.inl (t, n, .inr (.inr (.inr (.inr (va_up f i.toNatClampNeg (some b)))))))) else none
    | _, _ => none
  | _, _ => none
def aN (r : Option Nat) : MM Int32 := fun h => match r with
  | none => none
  | some a => match ce h a with
    | .inl x => if x.1 < 5 ∨ x.1 = 10 ∨ x.1 = 11 then some (Int32.ofNat x.2.1, h) else none
    | _ => none
/-- new arrays of ints, bytes, booleans (0, 1, 2), of references (3, 4), new objects -/
def nA (t : Nat) (n : Int32) : MM (Option Nat) := fun h =>
  if ¬ n < 0 ∧ n.toNatClampNeg * 8 ≤ 536870912 then some (some h.1, hn h n.toNatClampNeg (.inl (t, n.toNatClampNeg, .inl (fun _ => 0)))) else none
def nQ (t : Nat) (n : Int32) : MM (Option Nat) := fun h =>
  if ¬ n < 0 ∧ n.toNatClampNeg * 8 ≤ 536870912 then some (some h.1, hn h n.toNatClampNeg (.inl (t, n.toNatClampNeg, .inr (.inr (.inr (.inr (fun _ => none))))))) else none
def nO (ci N : Nat) (fs : List Value) : MM (Option Nat) := fun h => some (some h.1, hn h N (.inr (ci, fs)))
/-- a fixed reference of the start -/
def kR (i : Nat) : MM (Option Nat) := fun h => some (h.2.2.2 i, h)
def dI (x y : Int32) : MM Int32 := if y = 0 then mf else mr (x / y)
def rI (x y : Int32) : MM Int32 := if y = 0 then mf else mr (x - x / y * y)
def nzI (x : Int32) : MM Int32 := if x = 0 ∨ x = 1 then mr x else mf
/-- the fields of the start's cells lie below; what lies behind is nothing -/
abbrev GG : Type := Nat × va_G × (Nat → ClassId) × (Nat → va_E) × (Nat → Option Nat)
def gA (G : GG) : Nat → Prop := fun q => G.1 ≤ q
def gT (G : GG) : List (ClassId × FieldType) := [(G.2.2.1 0, .int), (G.2.2.1 1, .byte), (G.2.2.1 2, .boolean), (G.2.2.1 3, .object RX0), (G.2.2.1 4, .object RX2)]
def cv (f : Nat → ClassId) : va_E → va_E
  | .inl x => .inl (f x.1, x.2)
  | .inr o => .inr o
def dv : va_E → Prop
  | .inl x => x.1 < 5
  | .inr _ => True
def RH (G : GG) (h : AH) (H : Heap) : Prop := G.1 ≤ h.1 ∧ H.size = h.1 ∧ (∀ a, G.1 ≤ a → a < h.1 → va_at G.2.1 vwCl (a, cv G.2.2.1 (ce h a)) H ∧ dv (ce h a)) ∧ (∀ a, a < G.1 → ce h a = G.2.2.2.1 a) ∧ (∀ a, h.1 ≤ a → ce h a = .inr (15, [])) ∧ h.2.2.2 = G.2.2.2.2
def isNest : Cond → Bool
  | .fieldLinkNest _ _ _ _ _ _ => true
  | .methodLinkNest _ _ _ _ => true
  | .castable _ _ => true
  | .arrayOver (.object _) => true
  | _ => false
def ntbl : List Cond := tables_1.filter isNest
/-- methods of the builders' common part that none but itself calls, by name -/
def as_m : List MethodName := [⟨"java/lang/AbstractStringBuilder", "ensureCapacityInternal", "(I)V"⟩, ⟨"java/lang/AbstractStringBuilder", "newCapacity", "(I)I"⟩, ⟨"java/lang/AbstractStringBuilder", "putStringAt", "(ILjava/lang/String;)V"⟩, ⟨"java/lang/AbstractStringBuilder", "inflateIfNeededFor", "(Ljava/lang/String;)V"⟩]
def as_sels : List Cond := as_m.map fun y => Cond.selects "java/lang/StringBuilder" y y
def gtbl : List Cond := (as_sels ++ lw_tbl).filter goodWord
theorem gt_of {w : Cond} (i : Nat) (h : lw_tbl[i]? = some w) (hg : goodWord w = true) : w ∈ gtbl := List.mem_filter.mpr ⟨List.mem_append_right _ (List.mem_of_getElem? h), hg⟩
theorem gt_as {w : Cond} (i : Nat) (h : as_sels[i]? = some w) (hg : goodWord w = true) : w ∈ gtbl := List.mem_filter.mpr ⟨List.mem_append_left _ (List.mem_of_getElem? h), hg⟩
theorem nt_of {w : Cond} (i : Nat) (h : tables_1[i]? = some w) (hg : isNest w = true) : w ∈ ntbl := List.mem_filter.mpr ⟨List.mem_of_getElem? h, hg⟩
/-- the start's cells: its script (10), rows of bytes (11), texts (14) -/
def KR (G : GG) (a : Nat) (U : State) : Prop := match G.2.2.2.1 a with
  | .inl (t, n, .inl f) => (t = 10 ∧ va_T .int a n (fun j => .int (f j)) (gA G) U U.heap) ∨ (t = 11 ∧ (∀ j, fits .byte (.int (f j)) = true) ∧ va_T .byte a n (fun j => .int (f j)) (gA G) U U.heap)
  | .inl _ => False
  | .inr o => (o.1 = 14 ∧ o.2.length ≤ 2 ∧ va_O "java/lang/String" a (gA G) U U.heap ∧ ∀ k v, o.2[k]? = some v → va_OF (TJ0 k).1 (TJ0 k).2.1 (TJ0 k).2.2.1 v a (gA G) U U.heap) ∨ o = (15, [])
/-- which text constants there are: number, owner, place, text; which static numbers and references -/
def kS : List (Nat × String × Nat × String) := [(0, "LeafFormula$Tape", 73, "abcdefghiklmnopqrstvxyz"), (1, "LeafFormula$Scribe", 140, "pi"), (2, "LeafFormula$Scribe", 142, "chi"), (3, "LeafFormula$Scribe", 144, "abcdefghiklmnopqrstvxyz"), (4, "LeafFormula$Copy", 32, ""), (5, "LeafFormula$Scribe", 44, "lacks "), (6, "LeafFormula$Scribe", 127, "; "), (7, "LeafFormula$Scribe", 114, ", "), (8, "LeafFormula$Scribe", 60, "twice "), (9, "LeafFormula$Scribe", 122, "moved "), (10, "LeafFormulaModel", 76, "pi"), (11, "LeafFormulaModel", 82, "chi"), (12, "LeafFormulaModel", 84, "abcdefghiklmnopqrstvxyz"), (13, "LeafFormulaModel", 278, "lacks "), (14, "LeafFormulaModel", 263, ", "), (15, "LeafFormulaModel", 283, "; twice "), (16, "LeafFormulaModel", 285, "twice "), (17, "LeafFormulaModel", 287, "; moved "), (18, "LeafFormulaModel", 289, "moved ")]
def kN : List (String × String × String × Int32) := [("java/lang/String", "COMPACT_STRINGS", "Z", 1)]
def kQ : List (Nat × String × String × String) := [(20, "java/lang/Integer", "DigitOnes", "[B"), (21, "java/lang/Integer", "DigitTens", "[B"), (22, "jdk/internal/util/Preconditions", "SIOOBE_FORMATTER", "Ljava/util/function/BiFunction;")]
def GB (G : GG) (U : State) : Prop :=
  va_K G.2.1 vwCl (gT G) U ∧ (∀ w ∈ ntbl, va_Nw w U) ∧ (∀ q ∈ kS, ∃ a, G.2.2.2.2 q.1 = some a ∧ vk_R q.2.1 q.2.2.1 q.2.2.2 a U) ∧ (∀ q ∈ kN, va_Z q.1 q.2.1 q.2.2.1 (.int q.2.2.2) (gA G) U U.heap) ∧
  (∀ q ∈ kQ, va_Z q.2.1 q.2.2.1 q.2.2.2 (va_rf (G.2.2.2.2 q.1)) (gA G) U U.heap) ∧ ∀ a, a < G.1 → KR G a U
theorem cat_rf (r : Option Nat) : (va_rf r).category = 1 := by cases r <;> rfl
theorem KR.warm {G : GG} {a : Nat} {s U : State} (h : KR G a s) (hv : s.vm.Alike U.vm) (hq : ∀ q : Nat, q < s.heap.size → ¬ gA G q → U.heap[q]? = s.heap[q]?) : KR G a U := by
  unfold KR at h ⊢
  split at h
  · rcases h with ⟨h1, h2⟩ | ⟨h1, h2, h3⟩
    · exact Or.inl ⟨h1, (va_T.moved hv h2).kept hq⟩
    · exact Or.inr ⟨h1, h2, (va_T.moved hv h3).kept hq⟩
  · exact h
  · rcases h with ⟨h1, h2, h3, h4⟩ | h1
    · exact Or.inl ⟨h1, h2, (va_O.moved hv h3).kept hq, fun k v hk => (va_OF.moved hv (h4 k v hk)).kept hq⟩
    · exact Or.inr h1
theorem GB.warm {G : GG} {s U : State} (h : GB G s) (hW : s.WarmedH U.vm) (hq : ∀ q : Nat, q < s.heap.size → ¬ gA G q → U.heap[q]? = s.heap[q]?) : GB G U := by
  obtain ⟨h1, h2, h3, h4, h5, h6⟩ := h
  have hv := hW.alike
  refine ⟨va_K.moved hv h1, fun w hw => ?_, fun q hm => ?_, fun q hm => (va_Z.moved hv (h4 q hm)).kept hq, fun q hm => (va_Z.moved hv (h5 q hm)).kept hq, fun a ha => (h6 a ha).warm hv hq⟩
  · have hn : isNest w = true := (List.mem_filter.mp hw).2
    have h0 := h2 w hw
    cases w <;> first | exact va_Nw.warmF hW h0 | exact va_Nw.warmM hW h0 | exact va_Nw.warmC hW h0 | (exfalso; cases hn; done) | (rename_i ty; cases ty <;> first | exact va_AO.moved hv h0 | (exfalso; cases hn))
  · obtain ⟨a, e, hr⟩ := h3 q hm
    exact ⟨a, e, hr.warm hW⟩
theorem GB.same {G : GG} {s U : State} (h : GB G s) (hv : s.vm = U.vm) (hh : U.heap = s.heap) : GB G U := by
  obtain ⟨h1, h2, h3, h4, h5, h6⟩ := h
  have ha : s.vm.Alike U.vm := by rw [hv]; exact Vm.Alike.refl _
  have hq : ∀ q : Nat, q < s.heap.size → ¬ gA G q → U.heap[q]? = s.heap[q]? := fun q _ _ => by rw [hh]
  refine ⟨va_K.moved ha h1, fun w hw => ?_, fun q hm => ?_, fun q hm => (va_Z.moved ha (h4 q hm)).kept hq, fun q hm => (va_Z.moved ha (h5 q hm)).kept hq, fun a ha' => (h6 a ha').warm ha hq⟩
  · have hn : isNest w = true := (List.mem_filter.mp hw).2
    have h0 := h2 w hw
    cases w <;> first | (exfalso; cases hn; done) | exact va_Nw.same rfl hv h0 | (rename_i ty; cases ty <;> first | exact va_AO.moved ha h0 | (exfalso; cases hn))
  · obtain ⟨a, e, hr⟩ := h3 q hm
    exact ⟨a, e, vk_R.same hv.symm hr⟩
/-- what a method's body stands on -/
def CX (G : GG) (y : MethodName) (cc : ByteArray) (mL : Nat) (ret : Option FieldType) (p : Program) (s : State) (m : MethodId) (args : Array Value) (meth : Method) (c : Code) : Prop :=
  p.tables.exec = Jvm.exec ∧ c.code = cc ∧ c.maxLocals = mL ∧ meth.sig.returnType = ret ∧ meth.locks = false ∧ meth.name = y.name ∧ s.vm.findClass y.cls = some m.cls ∧ (∀ w ∈ gtbl, w.before args s = true) ∧ GB G s
/-- the locals: one slot each -/
def LH (ls : Array Slot) (mL : Nat) (L : List (Option Value)) : Prop := ls.size = mL ∧ lv_wf ls ∧ ∀ (i : Nat) (v : Value), L[i]? = some (some v) → ls[i]? = some (.val v) ∧ v.category = 1
def LE : List (Option Value) → List (Option Value) → Prop
  | [], _ => True
  | none :: t, [] => LE t []
  | none :: t, _ :: u => LE t u
  | some _ :: _, [] => False
  | some v :: t, w :: u => w = some v ∧ LE t u
theorem LE.at : ∀ (A B : List (Option Value)), LE A B → ∀ (i : Nat) (v : Value), A[i]? = some (some v) → B[i]? = some (some v)
  | [], _, _, i, v, h => by simp at h
  | none :: t, [], hl, i, v, h => by
    cases i with
    | zero => simp at h
    | succ i =>
      have h1 := LE.at t [] hl i v (by simpa using h)
      simp at h1
  | none :: t, _ :: u, hl, i, v, h => by
    cases i with
    | zero => simp at h
    | succ i => simpa using LE.at t u hl i v (by simpa using h)
  | some _ :: _, [], hl, _, _, _ => hl.elim
  | some a :: t, w :: u, hl, i, v, h => by
    cases i with
    | zero =>
      have e : a = v := by simpa using h
      subst e
      simpa using hl.1
    | succ i => simpa using LE.at t u hl.2 i v (by simpa using h)
theorem LH.weak {ls : Array Slot} {mL : Nat} {A B : List (Option Value)} (h : LH ls mL B) (hl : LE A B) : LH ls mL A := ⟨h.1, h.2.1, fun i v hv => h.2.2 i v (LE.at A B hl i v hv)⟩
theorem LH.store {ls : Array Slot} {mL : Nat} {L : List (Option Value)} (h : LH ls mL L) {i : Nat} {v : Value} (hi : i < mL) (hc : v.category = 1) : ∃ ls', storeLocals ls i v = some ls' ∧ LH ls' mL (L.set i (some v)) := by
  obtain ⟨h1, h2, h3⟩ := h
  obtain ⟨ls', e, g⟩ := lv_store1 (l := []) (i := i) (v := v) ⟨h1, h2, fun q hq => by cases hq⟩ hi hc
  refine ⟨ls', e, g.1, g.2.1, fun j w hj => ?_⟩
  by_cases hij : i = j
  · subst hij
    have hl : i < L.length := by
      have := (List.getElem?_eq_some_iff.mp hj).1
      simpa using this
    rw [List.getElem?_set_self hl] at hj
    cases hj
    exact ⟨g.2.2 (i, v) List.mem_cons_self, hc⟩
  · rw [List.getElem?_set_ne hij] at hj
    obtain ⟨q1, q2⟩ := h3 j w hj
    refine ⟨?_, q2⟩
    obtain ⟨ls2, e2, g2⟩ := lv_store1 (l := [(j, w)]) (i := i) (v := v) ⟨h1, h2, fun q hq => by
      rcases List.mem_singleton.mp hq with rfl
      exact q1⟩ hi hc
    cases e.symm.trans e2
    refine g2.2.2 (j, w) (List.mem_cons_of_mem _ (List.mem_filter.mpr ⟨List.mem_singleton.mpr rfl, ?_⟩))
    have n1 : (j == i) = false := by simp [Ne.symm hij]
    simp [n1, q2]
/-- a method's end: its last instruction, the answer on the stack -/
def RtA (cc : ByteArray) (ret : Option FieldType) (pc : Nat) (st : List Value) (r : Option Value) : Prop :=
  (∃ (v : Int32) (ty : FieldType), r = some (.int v) ∧ st = [.int v] ∧ ret = some ty ∧ narrow ty (.int v) = .int v ∧ decode cc pc = .ok (.ireturn, 1)) ∨
  (∃ (q : Option Nat) (ty : FieldType), r = some (va_rf q) ∧ st = [va_rf q] ∧ ret = some ty ∧ ((∃ n, ty = .object n) ∨ ∃ t, ty = .array t) ∧ decode cc pc = .ok (.areturn, 1)) ∨
  (r = none ∧ st = [] ∧ ret = none ∧ decode cc pc = .ok (.return_, 1))
/-- the code at pc does what x says -/
def Sn {α : Type} (G : GG) (y : MethodName) (cc : ByteArray) (mL : Nat) (ret : Option FieldType) (F Lr : Nat) (cvt : α → Option Value) (x : MM α) (pc : Nat) (L : List (Option Value)) (st : List Value) : Prop :=
  ∀ (h : AH) (r : α) (h' : AH), x h = some (r, h') → (h.1 ≤ h'.1 ∧ h.2.1 ≤ h'.2.1) ∧
    ∀ (p : Program) (l : Launch) (e : Env) (s : State) (m : MethodId) (args : Array Value) (below : List Frame) (meth : Method) (c : Code) (H : Heap) (locs : List Loc) (cells slots mc ms : Nat) (ls : Array Slot) (Q : State → Prop),
      CX G y cc mL ret p s m args meth c → RH G h H → va_S (gA G) s.heap H locs → LH ls mL L → G.1 ≤ s.heap.size → cells + (h'.1 - h.1) ≤ mc → slots + (h'.2.1 - h.2.1) ≤ ms →
      (∀ (H' : Heap) (locs' : List Loc) (pc' : Nat) (ls' : Array Slot) (st' : List Value), RH G h' H' → va_S (gA G) s.heap H' locs' → RtA cc ret pc' st' (cvt r) →
        W p l e { frames := F, cells := mc, slots := ms, locals := Lr } s m args below meth c H' locs' mc ms Q (F0 m pc' ls' st')) →
      W p l e { frames := F, cells := mc, slots := ms, locals := Lr } s m args below meth c H locs cells slots Q (F0 m pc ls st)
section SN
variable {α : Type} {G : GG} {y : MethodName} {cc : ByteArray} {mL : Nat} {ret : Option FieldType} {F Lr : Nat} {cvt : α → Option Value} {x : MM α} {pc pc' : Nat} {L L' : List (Option Value)} {st : List Value}
theorem sn_mf : Sn G y cc mL ret F Lr cvt (mf : MM α) pc L st := fun h r h' e => by cases e
theorem sn_weak (hl : LE L' L) (k : Sn G y cc mL ret F Lr cvt x pc L' st) : Sn G y cc mL ret F Lr cvt x pc L st := fun h r h' e => by
  obtain ⟨k1, k2⟩ := k h r h' e
  exact ⟨k1, fun p l e s m args below meth c H locs cells slots mc ms ls Q hC hR hS hL => k2 p l e s m args below meth c H locs cells slots mc ms ls Q hC hR hS (hL.weak hl)⟩
/-- a step that leaves the heap alone -/
theorem sn_step {pc2 : Nat} {L2 : List (Option Value)} {st2 : List Value}
    (hw : ∀ (p : Program) (l : Launch) (e : Env) (R : Room) (s : State) (m : MethodId) (args : Array Value) (below : List Frame) (meth : Method) (c : Code) (H : Heap) (locs : List Loc) (cells slots : Nat) (ls : Array Slot) (Q : State → Prop), CX G y cc mL ret p s m args meth c → LH ls mL L →
      (∀ ls2, LH ls2 mL L2 → W p l e R s m args below meth c H locs cells slots Q (F0 m pc2 ls2 st2)) → W p l e R s m args below meth c H locs cells slots Q (F0 m pc ls st))
    (k : Sn G y cc mL ret F Lr cvt x pc2 L2 st2) : Sn G y cc mL ret F Lr cvt x pc L st := fun h r h' e => by
  obtain ⟨k1, k2⟩ := k h r h' e
  exact ⟨k1, fun p l e s m args below meth c H locs cells slots mc ms ls Q hC hR hS hL hb hc hs kk => hw p l e _ s m args below meth c H locs cells slots ls Q hC hL fun ls2 hL2 => k2 p l e s m args below meth c H locs cells slots mc ms ls2 Q hC hR hS hL2 hb hc hs kk⟩
theorem sn_iconst {n : Int} {v : Int32} (hd : decode cc pc = .ok (.iconst n, 1)) (hp : pc + 1 = pc') (hv : Int32.ofInt n = v) (k : Sn G y cc mL ret F Lr cvt x pc' L (.int v :: st)) : Sn G y cc mL ret F Lr cvt x pc L st := by
  subst hp
  exact sn_step (fun p l e R s m args below meth c H locs cells slots ls Q hC hL kk => lv_iconst hC.1 hC.2.1 hd hv (kk ls hL)) k
theorem sn_bipush {n : Int} {v : Int32} (hd : decode cc pc = .ok (.bipush n, 2)) (hp : pc + 2 = pc') (hv : (Int8.ofInt n).toInt32 = v) (k : Sn G y cc mL ret F Lr cvt x pc' L (.int v :: st)) : Sn G y cc mL ret F Lr cvt x pc L st := by
  subst hp
  exact sn_step (fun p l e R s m args below meth c H locs cells slots ls Q hC hL kk => lv_bipush hC.1 hC.2.1 hd hv (kk ls hL)) k
theorem sn_sipush {n : Int} {v : Int32} (hd : decode cc pc = .ok (.sipush n, 3)) (hp : pc + 3 = pc') (hv : (Int16.ofInt n).toInt32 = v) (k : Sn G y cc mL ret F Lr cvt x pc' L (.int v :: st)) : Sn G y cc mL ret F Lr cvt x pc L st := by
  subst hp
  exact sn_step (fun p l e R s m args below meth c H locs cells slots ls Q hC hL kk => lv_sipush hC.1 hC.2.1 hd hv (kk ls hL)) k
theorem sn_ldc {n : Nat} {v : Int32} (hd : decode cc pc = .ok (.ldc n, 2)) (hp : pc + 2 = pc') (hw : Cond.constant y.cls n v ∈ gtbl) (k : Sn G y cc mL ret F Lr cvt x pc' L (.int v :: st)) : Sn G y cc mL ret F Lr cvt x pc L st := by
  subst hp
  exact sn_step (fun p l e R s m args below meth c H locs cells slots ls Q hC hL kk => lv_ldc hC.1 hC.2.1 hC.2.2.2.2.2.2.1 (hC.2.2.2.2.2.2.2.1 _ hw) hd (kk ls hL)) k
theorem sn_iload_n {i : Fin 4} {j : Nat} {v : Int32} (hd : decode cc pc = .ok (.iload_n i, 1)) (hp : pc + 1 = pc') (hj : (i : Nat) = j) (hl : L[j]? = some (some (.int v))) (k : Sn G y cc mL ret F Lr cvt x pc' L (.int v :: st)) : Sn G y cc mL ret F Lr cvt x pc L st := by
  subst hp
  exact sn_step (fun p l e R s m args below meth c H locs cells slots ls Q hC hL kk => lv_iload_n hC.1 hC.2.1 hd hj (hL.2.2 _ _ hl).1 (kk ls hL)) k
theorem sn_iload {j : Nat} {v : Int32} (hd : decode cc pc = .ok (.iload j, 2)) (hp : pc + 2 = pc') (hl : L[j]? = some (some (.int v))) (k : Sn G y cc mL ret F Lr cvt x pc' L (.int v :: st)) : Sn G y cc mL ret F Lr cvt x pc L st := by
  subst hp
  exact sn_step (fun p l e R s m args below meth c H locs cells slots ls Q hC hL kk => lv_iload hC.1 hC.2.1 hd (hL.2.2 _ _ hl).1 (kk ls hL)) k
theorem sn_aload_n {i : Fin 4} {j : Nat} {v : Option Nat} (hd : decode cc pc = .ok (.aload_n i, 1)) (hp : pc + 1 = pc') (hj : (i : Nat) = j) (hl : L[j]? = some (some (va_rf v))) (k : Sn G y cc mL ret F Lr cvt x pc' L (va_rf v :: st)) : Sn G y cc mL ret F Lr cvt x pc L st := by
  subst hp
  refine sn_step (fun p l e R s m args below meth c H locs cells slots ls Q hC hL kk => ?_) k
  have h1 := (hL.2.2 _ _ hl).1
  cases v with
  | none => exact lv_aload_nN hC.1 hC.2.1 hd hj h1 (kk ls hL)
  | some a => exact lv_aload_n hC.1 hC.2.1 hd hj h1 (kk ls hL)
theorem sn_aload {j : Nat} {v : Option Nat} (hd : decode cc pc = .ok (.aload j, 2)) (hp : pc + 2 = pc') (hl : L[j]? = some (some (va_rf v))) (k : Sn G y cc mL ret F Lr cvt x pc' L (va_rf v :: st)) : Sn G y cc mL ret F Lr cvt x pc L st := by
  subst hp
  refine sn_step (fun p l e R s m args below meth c H locs cells slots ls Q hC hL kk => ?_) k
  have h1 := (hL.2.2 _ _ hl).1
  cases v with
  | none => exact lv_aloadN hC.1 hC.2.1 hd h1 (kk ls hL)
  | some a => exact lv_aload hC.1 hC.2.1 hd h1 (kk ls hL)
theorem sn_istore_n {i : Fin 4} {j : Nat} {v : Int32} (hd : decode cc pc = .ok (.istore_n i, 1)) (hp : pc + 1 = pc') (hj : (i : Nat) = j) (hn : Nat.ble (j + 1) mL = true) (hl : L.set j (some (.int v)) = L') (k : Sn G y cc mL ret F Lr cvt x pc' L' st) : Sn G y cc mL ret F Lr cvt x pc L (.int v :: st) := by
  subst hp; subst hj; subst hl
  refine sn_step (fun p l e R s m args below meth c H locs cells slots ls Q hC hL kk => ?_) k
  obtain ⟨ls', e', h'⟩ := hL.store (v := .int v) (Nat.le_of_ble_eq_true hn) rfl
  have hx := hC.1
  have hb := hC.2.1
  intro T hT X
  obtain ⟨t, a, b⟩ := kk ls' h' T hT X
  refine ⟨t, ?_, b⟩
  jvm_step X.here [X.here.top, ↓top_set X.here.top, hx, hb, hd, e']
  exact a
theorem sn_istore {j : Nat} {v : Int32} (hd : decode cc pc = .ok (.istore j, 2)) (hp : pc + 2 = pc') (hn : Nat.ble (j + 1) mL = true) (hl : L.set j (some (.int v)) = L') (k : Sn G y cc mL ret F Lr cvt x pc' L' st) : Sn G y cc mL ret F Lr cvt x pc L (.int v :: st) := by
  subst hp; subst hl
  refine sn_step (fun p l e R s m args below meth c H locs cells slots ls Q hC hL kk => ?_) k
  obtain ⟨ls', e', h'⟩ := hL.store (v := .int v) (Nat.le_of_ble_eq_true hn) rfl
  have hx := hC.1
  have hb := hC.2.1
  intro T hT X
  obtain ⟨t, a, b⟩ := kk ls' h' T hT X
  refine ⟨t, ?_, b⟩
  jvm_step X.here [X.here.top, ↓top_set X.here.top, hx, hb, hd, e']
  exact a
theorem sn_astore_n {i : Fin 4} {j : Nat} {v : Option Nat} (hd : decode cc pc = .ok (.astore_n i, 1)) (hp : pc + 1 = pc') (hj : (i : Nat) = j) (hn : Nat.ble (j + 1) mL = true) (hl : L.set j (some (va_rf v)) = L') (k : Sn G y cc mL ret F Lr cvt x pc' L' st) : Sn G y cc mL ret F Lr cvt x pc L (va_rf v :: st) := by
  subst hp; subst hj; subst hl
  refine sn_step (fun p l e R s m args below meth c H locs cells slots ls Q hC hL kk => ?_) k
  obtain ⟨ls', e', h'⟩ := hL.store (v := va_rf v) (Nat.le_of_ble_eq_true hn) (cat_rf v)
  have hx := hC.1
  have hb := hC.2.1
  intro T hT X
  obtain ⟨t, a, b⟩ := kk ls' h' T hT X
  refine ⟨t, ?_, b⟩
  cases v with
  | none =>
    have e' : storeLocals ls (i : Nat) .null = some ls' := e'
    show Steps _ _ _ (T.setTop (F0 m pc ls (.null :: st))) t
    jvm_step X.here [X.here.top, ↓top_set X.here.top, hx, hb, hd, e', Value.isRef]
    exact a
  | some w =>
    have e' : storeLocals ls (i : Nat) (.ref w) = some ls' := e'
    show Steps _ _ _ (T.setTop (F0 m pc ls (.ref w :: st))) t
    jvm_step X.here [X.here.top, ↓top_set X.here.top, hx, hb, hd, e', Value.isRef]
    exact a
theorem sn_astore {j : Nat} {v : Option Nat} (hd : decode cc pc = .ok (.astore j, 2)) (hp : pc + 2 = pc') (hn : Nat.ble (j + 1) mL = true) (hl : L.set j (some (va_rf v)) = L') (k : Sn G y cc mL ret F Lr cvt x pc' L' st) : Sn G y cc mL ret F Lr cvt x pc L (va_rf v :: st) := by
  subst hp; subst hl
  refine sn_step (fun p l e R s m args below meth c H locs cells slots ls Q hC hL kk => ?_) k
  obtain ⟨ls', e', h'⟩ := hL.store (v := va_rf v) (Nat.le_of_ble_eq_true hn) (cat_rf v)
  have hx := hC.1
  have hb := hC.2.1
  intro T hT X
  obtain ⟨t, a, b⟩ := kk ls' h' T hT X
  refine ⟨t, ?_, b⟩
  cases v with
  | none =>
    have e' : storeLocals ls j .null = some ls' := e'
    show Steps _ _ _ (T.setTop (F0 m pc ls (.null :: st))) t
    jvm_step X.here [X.here.top, ↓top_set X.here.top, hx, hb, hd, e', Value.isRef]
    exact a
  | some w =>
    have e' : storeLocals ls j (.ref w) = some ls' := e'
    show Steps _ _ _ (T.setTop (F0 m pc ls (.ref w :: st))) t
    jvm_step X.here [X.here.top, ↓top_set X.here.top, hx, hb, hd, e', Value.isRef]
    exact a
theorem sn_iinc {j : Nat} {n : Int} {v w : Int32} (hd : decode cc pc = .ok (.iinc j n, 3)) (hp : pc + 3 = pc') (hn : Nat.ble (j + 1) mL = true) (hl : L[j]? = some (some (.int v))) (hv : Int32.ofInt n = w) (hs : L.set j (some (.int (v + w))) = L') (k : Sn G y cc mL ret F Lr cvt x pc' L' st) : Sn G y cc mL ret F Lr cvt x pc L st := by
  subst hp; subst hs; subst hv
  refine sn_step (fun p l e R s m args below meth c H locs cells slots ls Q hC hL kk => ?_) k
  obtain ⟨ls', e', h'⟩ := hL.store (v := .int (v + Int32.ofInt n)) (Nat.le_of_ble_eq_true hn) rfl
  have hg := (hL.2.2 _ _ hl).1
  have hx := hC.1
  have hb := hC.2.1
  intro T hT X
  obtain ⟨t, a, b⟩ := kk ls' h' T hT X
  refine ⟨t, ?_, b⟩
  jvm_step X.here [X.here.top, ↓top_set X.here.top, hx, hb, hd, hg, e']
  exact a
theorem sn_iadd {a b : Int32} (hd : decode cc pc = .ok (.iadd, 1)) (hp : pc + 1 = pc') (k : Sn G y cc mL ret F Lr cvt x pc' L (.int (a + b) :: st)) : Sn G y cc mL ret F Lr cvt x pc L (.int b :: .int a :: st) := by
  subst hp
  exact sn_step (fun p l e R s m args below meth c H locs cells slots ls Q hC hL kk => lv_iadd hC.1 hC.2.1 hd (kk ls hL)) k
theorem sn_isub {a b : Int32} (hd : decode cc pc = .ok (.isub, 1)) (hp : pc + 1 = pc') (k : Sn G y cc mL ret F Lr cvt x pc' L (.int (a - b) :: st)) : Sn G y cc mL ret F Lr cvt x pc L (.int b :: .int a :: st) := by
  subst hp
  exact sn_step (fun p l e R s m args below meth c H locs cells slots ls Q hC hL kk => lv_isub hC.1 hC.2.1 hd (kk ls hL)) k
theorem sn_imul {a b : Int32} (hd : decode cc pc = .ok (.imul, 1)) (hp : pc + 1 = pc') (k : Sn G y cc mL ret F Lr cvt x pc' L (.int (a * b) :: st)) : Sn G y cc mL ret F Lr cvt x pc L (.int b :: .int a :: st) := by
  subst hp
  exact sn_step (fun p l e R s m args below meth c H locs cells slots ls Q hC hL kk => lv_imul hC.1 hC.2.1 hd (kk ls hL)) k
theorem sn_iand {a b : Int32} (hd : decode cc pc = .ok (.iand, 1)) (hp : pc + 1 = pc') (k : Sn G y cc mL ret F Lr cvt x pc' L (.int (a &&& b) :: st)) : Sn G y cc mL ret F Lr cvt x pc L (.int b :: .int a :: st) := by
  subst hp
  exact sn_step (fun p l e R s m args below meth c H locs cells slots ls Q hC hL kk => lv_iand hC.1 hC.2.1 hd (kk ls hL)) k
theorem sn_ior {a b : Int32} (hd : decode cc pc = .ok (.ior, 1)) (hp : pc + 1 = pc') (k : Sn G y cc mL ret F Lr cvt x pc' L (.int (a ||| b) :: st)) : Sn G y cc mL ret F Lr cvt x pc L (.int b :: .int a :: st) := by
  subst hp
  exact sn_step (fun p l e R s m args below meth c H locs cells slots ls Q hC hL kk => lv_ior hC.1 hC.2.1 hd (kk ls hL)) k
theorem sn_ishl {a b : Int32} (hd : decode cc pc = .ok (.ishl, 1)) (hp : pc + 1 = pc') (k : Sn G y cc mL ret F Lr cvt x pc' L (.int (a <<< (b &&& 31)) :: st)) : Sn G y cc mL ret F Lr cvt x pc L (.int b :: .int a :: st) := by
  subst hp
  exact sn_step (fun p l e R s m args below meth c H locs cells slots ls Q hC hL kk => lv_ishl hC.1 hC.2.1 hd (kk ls hL)) k
theorem sn_ishr {a b : Int32} (hd : decode cc pc = .ok (.ishr, 1)) (hp : pc + 1 = pc') (k : Sn G y cc mL ret F Lr cvt x pc' L (.int (a >>> (b &&& 31)) :: st)) : Sn G y cc mL ret F Lr cvt x pc L (.int b :: .int a :: st) := by
  subst hp
  exact sn_step (fun p l e R s m args below meth c H locs cells slots ls Q hC hL kk => lv_ishr hC.1 hC.2.1 hd (kk ls hL)) k
theorem sn_ineg {a : Int32} (hd : decode cc pc = .ok (.ineg, 1)) (hp : pc + 1 = pc') (k : Sn G y cc mL ret F Lr cvt x pc' L (.int (-a) :: st)) : Sn G y cc mL ret F Lr cvt x pc L (.int a :: st) := by
  subst hp
  exact sn_step (fun p l e R s m args below meth c H locs cells slots ls Q hC hL kk => lv_ineg hC.1 hC.2.1 hd (kk ls hL)) k
theorem sn_i2b {a : Int32} (hd : decode cc pc = .ok (.i2b, 1)) (hp : pc + 1 = pc') (k : Sn G y cc mL ret F Lr cvt x pc' L (.int (a.toInt8.toInt32) :: st)) : Sn G y cc mL ret F Lr cvt x pc L (.int a :: st) := by
  subst hp
  exact sn_step (fun p l e R s m args below meth c H locs cells slots ls Q hC hL kk => lv_i2b hC.1 hC.2.1 hd rfl (kk ls hL)) k
theorem sn_i2c {a : Int32} (hd : decode cc pc = .ok (.i2c, 1)) (hp : pc + 1 = pc') (k : Sn G y cc mL ret F Lr cvt x pc' L (.int ((a.toUInt32 % 65536).toInt32) :: st)) : Sn G y cc mL ret F Lr cvt x pc L (.int a :: st) := by
  subst hp
  exact sn_step (fun p l e R s m args below meth c H locs cells slots ls Q hC hL kk => lv_i2c hC.1 hC.2.1 hd rfl (kk ls hL)) k
theorem sn_dup {va : Value} (hd : decode cc pc = .ok (.dup, 1)) (hp : pc + 1 = pc') (h1 : va.category = 1) (k : Sn G y cc mL ret F Lr cvt x pc' L (va :: va :: st)) : Sn G y cc mL ret F Lr cvt x pc L (va :: st) := by
  subst hp
  exact sn_step (fun p l e R s m args below meth c H locs cells slots ls Q hC hL kk => lv_dup hC.1 hC.2.1 hd h1 (kk ls hL)) k
theorem sn_dup_x1 {va vb : Value} (hd : decode cc pc = .ok (.dup_x1, 1)) (hp : pc + 1 = pc') (h1 : va.category = 1) (h2 : vb.category = 1) (k : Sn G y cc mL ret F Lr cvt x pc' L (va :: vb :: va :: st)) : Sn G y cc mL ret F Lr cvt x pc L (va :: vb :: st) := by
  subst hp
  exact sn_step (fun p l e R s m args below meth c H locs cells slots ls Q hC hL kk => lv_dup_x1 hC.1 hC.2.1 hd h1 h2 (kk ls hL)) k
theorem sn_dup2 {va vb : Value} (hd : decode cc pc = .ok (.dup2, 1)) (hp : pc + 1 = pc') (h1 : va.category = 1) (h2 : vb.category = 1) (k : Sn G y cc mL ret F Lr cvt x pc' L (va :: vb :: va :: vb :: st)) : Sn G y cc mL ret F Lr cvt x pc L (va :: vb :: st) := by
  subst hp
  exact sn_step (fun p l e R s m args below meth c H locs cells slots ls Q hC hL kk => lv_dup2_11 hC.1 hC.2.1 hd h1 h2 (kk ls hL)) k
theorem sn_pop {va : Value} (hd : decode cc pc = .ok (.pop, 1)) (hp : pc + 1 = pc') (h1 : va.category = 1) (k : Sn G y cc mL ret F Lr cvt x pc' L st) : Sn G y cc mL ret F Lr cvt x pc L (va :: st) := by
  subst hp
  exact sn_step (fun p l e R s m args below meth c H locs cells slots ls Q hC hL kk => lv_pop hC.1 hC.2.1 hd h1 (kk ls hL)) k
theorem sn_null (hd : decode cc pc = .ok (.aconst_null, 1)) (hp : pc + 1 = pc') (k : Sn G y cc mL ret F Lr cvt x pc' L (va_rf none :: st)) : Sn G y cc mL ret F Lr cvt x pc L st := by
  subst hp
  exact sn_step (fun p l e R s m args below meth c H locs cells slots ls Q hC hL kk => lv_null hC.1 hC.2.1 hd (kk ls hL)) k
theorem sn_goto {off : Int} (hd : decode cc pc = .ok (.goto off, 3)) (ht : (pc : Int) + off = (pc' : Int)) (k : Sn G y cc mL ret F Lr cvt x pc' L st) : Sn G y cc mL ret F Lr cvt x pc L st :=
  sn_step (fun p l e R s m args below meth c H locs cells slots ls Q hC hL kk => lv_goto hC.1 hC.2.1 hd ht (kk ls hL)) k
/-- a branch -/
theorem sn_br {c : Prop} {dc : Decidable c} {A B : MM α} {pt pf : Nat} {st2 : List Value}
    (hw : ∀ (p : Program) (l : Launch) (e : Env) (R : Room) (s : State) (m : MethodId) (args : Array Value) (below : List Frame) (meth : Method) (cd : Code) (H : Heap) (locs : List Loc) (cells slots : Nat) (ls : Array Slot) (Q : State → Prop), CX G y cc mL ret p s m args meth cd →
      (c → W p l e R s m args below meth cd H locs cells slots Q (F0 m pt ls st2)) → (¬ c → W p l e R s m args below meth cd H locs cells slots Q (F0 m pf ls st2)) → W p l e R s m args below meth cd H locs cells slots Q (F0 m pc ls st))
    (kt : Sn G y cc mL ret F Lr cvt A pt L st2) (kf : Sn G y cc mL ret F Lr cvt B pf L st2) : Sn G y cc mL ret F Lr cvt (@ite _ c dc A B) pc L st := fun h r h' e => by
  by_cases hc : c
  · rw [if_pos hc] at e
    obtain ⟨k1, k2⟩ := kt h r h' e
    exact ⟨k1, fun p l e s m args below meth cd H locs cells slots mc ms ls Q hC hR hS hL hb h1 h2 kk => hw p l e _ s m args below meth cd H locs cells slots ls Q hC (fun _ => k2 p l e s m args below meth cd H locs cells slots mc ms ls Q hC hR hS hL hb h1 h2 kk) (fun q => absurd hc q)⟩
  · rw [if_neg hc] at e
    obtain ⟨k1, k2⟩ := kf h r h' e
    exact ⟨k1, fun p l e s m args below meth cd H locs cells slots mc ms ls Q hC hR hS hL hb h1 h2 kk => hw p l e _ s m args below meth cd H locs cells slots ls Q hC (fun q => absurd q hc) (fun _ => k2 p l e s m args below meth cd H locs cells slots mc ms ls Q hC hR hS hL hb h1 h2 kk)⟩
theorem sn_if_eq {a : Int32} {A B : MM α} {off : Int} {pt pf : Nat} (hd : decode cc pc = .ok (.ifCond .eq off, 3)) (ht : (pc : Int) + off = (pt : Int)) (hp : pc + 3 = pf) (kt : Sn G y cc mL ret F Lr cvt A pt L st) (kf : Sn G y cc mL ret F Lr cvt B pf L st) : Sn G y cc mL ret F Lr cvt (if a = 0 then A else B) pc L (.int a :: st) := by
  subst hp
  exact sn_br (fun p l e R s m args below meth cd H locs cells slots ls Q hC => lv_if_eq hC.1 hC.2.1 hd ht) kt kf
theorem sn_ic_eq {a b : Int32} {A B : MM α} {off : Int} {pt pf : Nat} (hd : decode cc pc = .ok (.if_icmp .eq off, 3)) (ht : (pc : Int) + off = (pt : Int)) (hp : pc + 3 = pf) (kt : Sn G y cc mL ret F Lr cvt A pt L st) (kf : Sn G y cc mL ret F Lr cvt B pf L st) : Sn G y cc mL ret F Lr cvt (if a = b then A else B) pc L (.int b :: .int a :: st) := by
  subst hp
  exact sn_br (fun p l e R s m args below meth cd H locs cells slots ls Q hC => lv_icmp_eq hC.1 hC.2.1 hd ht) kt kf
theorem sn_if_lt {a : Int32} {A B : MM α} {off : Int} {pt pf : Nat} (hd : decode cc pc = .ok (.ifCond .lt off, 3)) (ht : (pc : Int) + off = (pt : Int)) (hp : pc + 3 = pf) (kt : Sn G y cc mL ret F Lr cvt A pt L st) (kf : Sn G y cc mL ret F Lr cvt B pf L st) : Sn G y cc mL ret F Lr cvt (if a < 0 then A else B) pc L (.int a :: st) := by
  subst hp
  exact sn_br (fun p l e R s m args below meth cd H locs cells slots ls Q hC => lv_if_lt hC.1 hC.2.1 hd ht) kt kf
theorem sn_ic_lt {a b : Int32} {A B : MM α} {off : Int} {pt pf : Nat} (hd : decode cc pc = .ok (.if_icmp .lt off, 3)) (ht : (pc : Int) + off = (pt : Int)) (hp : pc + 3 = pf) (kt : Sn G y cc mL ret F Lr cvt A pt L st) (kf : Sn G y cc mL ret F Lr cvt B pf L st) : Sn G y cc mL ret F Lr cvt (if a < b then A else B) pc L (.int b :: .int a :: st) := by
  subst hp
  exact sn_br (fun p l e R s m args below meth cd H locs cells slots ls Q hC => lv_icmp_lt hC.1 hC.2.1 hd ht) kt kf
theorem sn_if_ge {a : Int32} {A B : MM α} {off : Int} {pt pf : Nat} (hd : decode cc pc = .ok (.ifCond .ge off, 3)) (ht : (pc : Int) + off = (pt : Int)) (hp : pc + 3 = pf) (kt : Sn G y cc mL ret F Lr cvt A pt L st) (kf : Sn G y cc mL ret F Lr cvt B pf L st) : Sn G y cc mL ret F Lr cvt (if 0 ≤ a then A else B) pc L (.int a :: st) := by
  subst hp
  exact sn_br (fun p l e R s m args below meth cd H locs cells slots ls Q hC => lv_if_ge hC.1 hC.2.1 hd ht) kt kf
theorem sn_ic_ge {a b : Int32} {A B : MM α} {off : Int} {pt pf : Nat} (hd : decode cc pc = .ok (.if_icmp .ge off, 3)) (ht : (pc : Int) + off = (pt : Int)) (hp : pc + 3 = pf) (kt : Sn G y cc mL ret F Lr cvt A pt L st) (kf : Sn G y cc mL ret F Lr cvt B pf L st) : Sn G y cc mL ret F Lr cvt (if b ≤ a then A else B) pc L (.int b :: .int a :: st) := by
  subst hp
  exact sn_br (fun p l e R s m args below meth cd H locs cells slots ls Q hC => lv_icmp_ge hC.1 hC.2.1 hd ht) kt kf
theorem sn_if_gt {a : Int32} {A B : MM α} {off : Int} {pt pf : Nat} (hd : decode cc pc = .ok (.ifCond .gt off, 3)) (ht : (pc : Int) + off = (pt : Int)) (hp : pc + 3 = pf) (kt : Sn G y cc mL ret F Lr cvt A pt L st) (kf : Sn G y cc mL ret F Lr cvt B pf L st) : Sn G y cc mL ret F Lr cvt (if 0 < a then A else B) pc L (.int a :: st) := by
  subst hp
  exact sn_br (fun p l e R s m args below meth cd H locs cells slots ls Q hC => lv_if_gt hC.1 hC.2.1 hd ht) kt kf
theorem sn_ic_gt {a b : Int32} {A B : MM α} {off : Int} {pt pf : Nat} (hd : decode cc pc = .ok (.if_icmp .gt off, 3)) (ht : (pc : Int) + off = (pt : Int)) (hp : pc + 3 = pf) (kt : Sn G y cc mL ret F Lr cvt A pt L st) (kf : Sn G y cc mL ret F Lr cvt B pf L st) : Sn G y cc mL ret F Lr cvt (if b < a then A else B) pc L (.int b :: .int a :: st) := by
  subst hp
  exact sn_br (fun p l e R s m args below meth cd H locs cells slots ls Q hC => lv_icmp_gt hC.1 hC.2.1 hd ht) kt kf
theorem sn_if_le {a : Int32} {A B : MM α} {off : Int} {pt pf : Nat} (hd : decode cc pc = .ok (.ifCond .le off, 3)) (ht : (pc : Int) + off = (pt : Int)) (hp : pc + 3 = pf) (kt : Sn G y cc mL ret F Lr cvt A pt L st) (kf : Sn G y cc mL ret F Lr cvt B pf L st) : Sn G y cc mL ret F Lr cvt (if a ≤ 0 then A else B) pc L (.int a :: st) := by
  subst hp
  exact sn_br (fun p l e R s m args below meth cd H locs cells slots ls Q hC => lv_if_le hC.1 hC.2.1 hd ht) kt kf
theorem sn_ic_le {a b : Int32} {A B : MM α} {off : Int} {pt pf : Nat} (hd : decode cc pc = .ok (.if_icmp .le off, 3)) (ht : (pc : Int) + off = (pt : Int)) (hp : pc + 3 = pf) (kt : Sn G y cc mL ret F Lr cvt A pt L st) (kf : Sn G y cc mL ret F Lr cvt B pf L st) : Sn G y cc mL ret F Lr cvt (if a ≤ b then A else B) pc L (.int b :: .int a :: st) := by
  subst hp
  exact sn_br (fun p l e R s m args below meth cd H locs cells slots ls Q hC => lv_icmp_le hC.1 hC.2.1 hd ht) kt kf
/-- unequal: the place behind it first -/
theorem sn_if_ne {a : Int32} {A B : MM α} {off : Int} {pt pf : Nat} (hd : decode cc pc = .ok (.ifCond .ne off, 3)) (ht : (pc : Int) + off = (pt : Int)) (hp : pc + 3 = pf) (kt : Sn G y cc mL ret F Lr cvt A pf L st) (kf : Sn G y cc mL ret F Lr cvt B pt L st) : Sn G y cc mL ret F Lr cvt (if a = 0 then A else B) pc L (.int a :: st) := by
  subst hp
  exact sn_br (fun p l e R s m args below meth cd H locs cells slots ls Q hC h1 h2 => lv_if_ne hC.1 hC.2.1 hd ht h2 h1) kt kf
theorem sn_ic_ne {a b : Int32} {A B : MM α} {off : Int} {pt pf : Nat} (hd : decode cc pc = .ok (.if_icmp .ne off, 3)) (ht : (pc : Int) + off = (pt : Int)) (hp : pc + 3 = pf) (kt : Sn G y cc mL ret F Lr cvt A pf L st) (kf : Sn G y cc mL ret F Lr cvt B pt L st) : Sn G y cc mL ret F Lr cvt (if a = b then A else B) pc L (.int b :: .int a :: st) := by
  subst hp
  exact sn_br (fun p l e R s m args below meth cd H locs cells slots ls Q hC h1 h2 => lv_icmp_ne hC.1 hC.2.1 hd ht h2 h1) kt kf
theorem sn_ifnull {a : Option Nat} {A B : MM α} {off : Int} {pt pf : Nat} (hd : decode cc pc = .ok (.ifnull off, 3)) (ht : (pc : Int) + off = (pt : Int)) (hp : pc + 3 = pf) (kt : Sn G y cc mL ret F Lr cvt A pt L st) (kf : Sn G y cc mL ret F Lr cvt B pf L st) : Sn G y cc mL ret F Lr cvt (if a = none then A else B) pc L (va_rf a :: st) := by
  subst hp
  refine sn_br (fun p l e R s m args below meth cd H locs cells slots ls Q hC h1 h2 => ?_) kt kf
  cases a with
  | none => exact lv_ifnullN hC.1 hC.2.1 hd ht (h1 rfl)
  | some a => exact lv_ifnull hC.1 hC.2.1 hd  (h2 (fun q => by cases q))
theorem sn_ifnonnull {a : Option Nat} {A B : MM α} {off : Int} {pt pf : Nat} (hd : decode cc pc = .ok (.ifnonnull off, 3)) (ht : (pc : Int) + off = (pt : Int)) (hp : pc + 3 = pf) (kt : Sn G y cc mL ret F Lr cvt A pf L st) (kf : Sn G y cc mL ret F Lr cvt B pt L st) : Sn G y cc mL ret F Lr cvt (if a = none then A else B) pc L (va_rf a :: st) := by
  subst hp
  refine sn_br (fun p l e R s m args below meth cd H locs cells slots ls Q hC h1 h2 => ?_) kt kf
  cases a with
  | none => exact lv_ifnonnullN hC.1 hC.2.1 hd  (h1 rfl)
  | some a => exact lv_ifnonnull hC.1 hC.2.1 hd ht (h2 (fun q => by cases q))
end SN
section SH
variable {α β : Type} {G : GG} {y : MethodName} {cc : ByteArray} {mL : Nat} {ret : Option FieldType} {F Lr : Nat} {cvt : α → Option Value} {x : MM α} {pc pc' : Nat} {L L' : List (Option Value)} {st : List Value}
variable {p : Program} {l : Launch} {e : Env} {R : Room} {s : State} {m : MethodId} {args : Array Value} {below : List Frame} {meth : Method} {c : Code} {H : Heap} {locs : List Loc} {cells slots : Nat} {Q : State → Prop} {ls : Array Slot} {h : AH}
/-- a step that reads -/
theorem sn_rd {q : MM β} {f : β → MM α} {st2 : β → List Value}
    (hq : ∀ (h : AH) (v : β) (h' : AH), q h = some (v, h') → h' = h ∧ ∀ (p : Program) (l : Launch) (e : Env) (R : Room) (s : State) (m : MethodId) (args : Array Value) (below : List Frame) (meth : Method) (c : Code) (H : Heap) (locs : List Loc) (cells slots : Nat) (ls : Array Slot) (Q : State → Prop),
      CX G y cc mL ret p s m args meth c → RH G h H → va_S (gA G) s.heap H locs → W p l e R s m args below meth c H locs cells slots Q (F0 m pc' ls (st2 v)) → W p l e R s m args below meth c H locs cells slots Q (F0 m pc ls st))
    (k : ∀ v, Sn G y cc mL ret F Lr cvt (f v) pc' L (st2 v)) : Sn G y cc mL ret F Lr cvt (mb q f) pc L st := fun h r h' e => by
  unfold mb at e
  cases hv : q h with
  | none => rw [hv] at e; cases e
  | some w =>
    obtain ⟨v, h1⟩ := w
    rw [hv] at e
    obtain ⟨rfl, hw⟩ := hq h v h1 hv
    obtain ⟨k1, k2⟩ := k v h1 r h' e
    exact ⟨k1, fun p l e s m args below meth c H locs cells slots mc ms ls Q hC hR hS hL hb hc hs kk => hw p l e _ s m args below meth c H locs cells slots ls Q hC hR hS (k2 p l e s m args below meth c H locs cells slots mc ms ls Q hC hR hS hL hb hc hs kk)⟩
theorem RH.lo {a : Nat} (hR : RH G h H) (hj : ce h a ≠ .inr (15, [])) : a < h.1 := by
  by_cases hl : a < h.1
  · exact hl
  · exact absurd (hR.2.2.2.2.1 a (Nat.not_lt.mp hl)) hj
theorem kout (G : GG) {a : Nat} (h : a < G.1) : ¬ gA G a := fun q => Nat.lt_irrefl _ (Nat.lt_of_lt_of_le h q)
/-- the class of number ci, with its tables -/
def CI (ci : Nat) (C : String) (T : u_T) (N : Nat) (ty : Nat → FieldType) : Prop := vwCl[ci]? = some (C, T, N) ∧ (∀ w ∈ u_ws C T N, w ∈ gtbl) ∧ (∀ k, k < N → parseFieldDescriptor (T k).2.2.1 = some (ty k)) ∧ ∀ a, a < N → ∀ b, b < N → a ≠ b → (T a).2.1 ≠ (T b).2.1
theorem CI.lt {ci : Nat} {C : String} {T : u_T} {N : Nat} {ty : Nat → FieldType} (h : CI ci C T N ty) : ci < 14 := (List.getElem?_eq_some_iff.mp h.1).1
theorem ob_of {a : Nat} {o : Nat × List Value} (hR : RH G h H) (hC : CX G y cc mL ret p s m args meth c) (he : ce h a = .inr o) (ho : o.1 < 14) : G.1 ≤ a ∧ a < h.1 ∧ va_at G.2.1 vwCl (a, .inr o) H := by
  have hl : a < h.1 := hR.lo (by rw [he]; intro q; cases q; exact absurd ho (by decide))
  by_cases hb : a < G.1
  · have h1 := hC.2.2.2.2.2.2.2.2.2.2.2.2.2 a hb
    unfold KR at h1
    rw [← hR.2.2.2.1 a hb, he] at h1
    rcases h1 with ⟨q, -⟩ | q
    · rw [q] at ho; exact absurd ho (by decide)
    · rw [q] at ho; exact absurd ho (by decide)
  · have hb' := Nat.not_lt.mp hb
    have h1 := (hR.2.2.1 a hb' hl).1
    rw [he] at h1
    exact ⟨hb', hl, h1⟩
theorem w_get {ci : Nat} {C : String} {T : u_T} {N : Nat} {ty : Nat → FieldType} (hI : CI ci C T N ty) {a k : Nat} {o : Nat × List Value} {v : Value} {index : Nat} (hC : CX G y cc mL ret p s m args meth c) (hR : RH G h H) (hS : va_S (gA G) s.heap H locs) (he : ce h a = .inr o) (hok : okc ci o.1 = true) (hv : o.2[k]? = some v) (hk : k < N)
    (hl : Cond.fieldLink y.cls index (T k).1 (T k).2.1 (T k).2.2.1 ∈ gtbl ∨ ∃ host, Cond.fieldLinkNest y.cls index (T k).1 (T k).2.1 (T k).2.2.1 host ∈ ntbl) (hd : decode cc pc = .ok (.getfield index, 3))
    (kk : W p l e R s m args below meth c H locs cells slots Q (F0 m (pc + 3) ls (v :: st))) : W p l e R s m args below meth c H locs cells slots Q (F0 m pc ls (.ref a :: st)) := by
  have hB := hC.2.2.2.2.2.2.2.2
  have hts := hC.2.2.2.2.2.2.2.1
  have hown := hC.2.2.2.2.2.2.1
  have hlt := hI.lt
  by_cases hb : a < G.1
  · have h1 := hB.2.2.2.2.2 a hb
    unfold KR at h1
    rw [← hR.2.2.2.1 a hb, he] at h1
    rcases h1 with ⟨q, h2, h3, h4⟩ | q
    · have hci : ci = 0 := by
        unfold okc at hok
        rw [q] at hok
        simp at hok
        omega
      subst hci
      have e1 : (C, T, N) = (RJ0, TJ0, 4) := Option.some.inj (hI.1.symm.trans rfl)
      cases e1
      have h5 := h4 k v hv
      rcases hl with hl | ⟨host, hl⟩
      · exact vk_getf hC.1 hC.2.1 h5 hS hown (hts _ hl) (fun _ z => z) hd kk
      · obtain ⟨cf, kq, fi, f, cell, g1, g2, g3, g4, g5, g6⟩ := h5.kept hS.2.1
        exact va_Wgetf hC.1 hC.2.1 hown (va_Nw.use rfl (hB.2.1 _ hl)) g1 g2 g3 g4 g5 rfl rfl hd kk
    · rw [q] at hv
      cases hv
  · by_cases h14 : o.1 = 14
    · have hl2 : a < h.1 := hR.lo (by rw [he]; intro q; cases q; cases h14)
      have h1 := (hR.2.2.1 a (Nat.not_lt.mp hb) hl2).1
      rw [he] at h1
      obtain ⟨r, h2, -⟩ := h1
      exfalso
      have h3 : vwCl[o.1]? = some r := h2
      rw [h14] at h3
      cases h3
    · have hci : o.1 = ci := by
        unfold okc at hok
        simp at hok
        omega
      obtain ⟨ci', fs⟩ := o
      have hci : ci' = ci := hci
      subst hci
      obtain ⟨-, -, h1⟩ := ob_of hR hC he hlt
      have hP : va_P G.2.1 vwCl [(a, .inr (ci', fs))] H := fun j q hj => by
        have hz : j < 1 := (List.getElem?_eq_some_iff.mp hj).1
        rw [show j = 0 by omega] at hj
        cases hj
        exact h1
      rcases hl with hl | ⟨host, hl⟩
      · exact va_get hC.1 hC.2.1 hts hI.2.1 hown hB.1 hP 0 rfl hI.1 k hk (hts _ hl) (fun _ z => z) hv hd kk
      · exact va_getN hC.1 hC.2.1 hts hI.2.1 hown hB.1 hP 0 rfl hI.1 k hk (va_Nw.use rfl (hB.2.1 _ hl)) (fun _ z => z) hv hd kk
theorem gV_some {ci k : Nat} {r : Option Nat} {v : Value} {h' : AH} (e : gV ci r k h = some (v, h')) : h' = h ∧ ∃ a o, r = some a ∧ ce h a = .inr o ∧ okc ci o.1 = true ∧ o.2[k]? = some v := by
  unfold gV at e
  cases r with
  | none => cases e
  | some a =>
    dsimp only at e
    split at e
    · cases e
    · rename_i o ho
      split at e
      · rename_i hok
        split at e
        · cases e
        · rename_i w hw
          cases e
          exact ⟨rfl, a, o, rfl, ho, hok, hw⟩
      · cases e
theorem sn_gI {ci : Nat} {C : String} {T : u_T} {N : Nat} {ty : Nat → FieldType} (hI : CI ci C T N ty) {r : Option Nat} {k index : Nat} {f : Int32 → MM α} (hk : Nat.ble (k + 1) N = true) (hl : Cond.fieldLink y.cls index (T k).1 (T k).2.1 (T k).2.2.1 ∈ gtbl ∨ ∃ host, Cond.fieldLinkNest y.cls index (T k).1 (T k).2.1 (T k).2.2.1 host ∈ ntbl) (hd : decode cc pc = .ok (.getfield index, 3)) (hp : pc + 3 = pc')
    (kk : ∀ v, Sn G y cc mL ret F Lr cvt (f v) pc' L (.int v :: st)) : Sn G y cc mL ret F Lr cvt (mb (gI ci r k) f) pc L (va_rf r :: st) := by
  subst hp
  refine sn_rd (st2 := fun v => .int v :: st) (fun h v h' hq => ?_) kk
  unfold gI at hq
  split at hq
  · rename_i x0 h0 hg
    cases hq
    obtain ⟨rfl, a, o, rfl, he, hok, hv⟩ := gV_some hg
    exact ⟨rfl, fun p l e R s m args below meth c H locs cells slots ls Q hC hR hS kw => w_get hI hC hR hS he hok hv (Nat.le_of_ble_eq_true hk) hl hd kw⟩
  · cases hq
theorem sn_gR {ci : Nat} {C : String} {T : u_T} {N : Nat} {ty : Nat → FieldType} (hI : CI ci C T N ty) {r : Option Nat} {k index : Nat} {f : Option Nat → MM α} (hk : Nat.ble (k + 1) N = true) (hl : Cond.fieldLink y.cls index (T k).1 (T k).2.1 (T k).2.2.1 ∈ gtbl ∨ ∃ host, Cond.fieldLinkNest y.cls index (T k).1 (T k).2.1 (T k).2.2.1 host ∈ ntbl) (hd : decode cc pc = .ok (.getfield index, 3)) (hp : pc + 3 = pc')
    (kk : ∀ v, Sn G y cc mL ret F Lr cvt (f v) pc' L (va_rf v :: st)) : Sn G y cc mL ret F Lr cvt (mb (gR ci r k) f) pc L (va_rf r :: st) := by
  subst hp
  refine sn_rd (st2 := fun v => va_rf v :: st) (fun h v h' hq => ?_) kk
  unfold gR at hq
  split at hq
  · rename_i x0 h0 hg
    cases hq
    obtain ⟨rfl, a, o, rfl, he, hok, hv⟩ := gV_some hg
    exact ⟨rfl, fun p l e R s m args below meth c H locs cells slots ls Q hC hR hS kw => w_get hI hC hR hS he hok hv (Nat.le_of_ble_eq_true hk) hl hd kw⟩
  · rename_i h0 hg
    cases hq
    obtain ⟨rfl, a, o, rfl, he, hok, hv⟩ := gV_some hg
    exact ⟨rfl, fun p l e R s m args below meth c H locs cells slots ls Q hC hR hS kw => w_get hI hC hR hS he hok hv (Nat.le_of_ble_eq_true hk) hl hd kw⟩
  · cases hq
end SH
