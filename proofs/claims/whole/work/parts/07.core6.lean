section SE
variable {α β : Type} {G : GG} {y : MethodName} {cc : ByteArray} {mL : Nat} {ret : Option FieldType} {F Lr : Nat} {cvt : α → Option Value} {x : MM α} {pc pc' : Nat} {L L' : List (Option Value)} {st stk : List Value}
theorem le_z {t : List (Option Value)} (h : LE t []) : LE (none :: t) [] := h
/-- how often a loop may turn -/
def LFU : Nat := 20000
theorem sn_nz01 {a : Int32} {f : Int32 → MM α} (kk : ∀ v, (v = 0 ∨ v = 1) → Sn G y cc mL ret F Lr cvt (f v) pc L (.int v :: st)) : Sn G y cc mL ret F Lr cvt (mb (nzI a) f) pc L (.int a :: st) := fun h r h' e => by
  unfold mb nzI at e
  split at e
  · cases e
  · rename_i q hq
    split at hq
    · rename_i h01
      cases hq
      exact kk a h01 h r h' e
    · cases hq
theorem nar_b {v : Int32} (h : v = 0 ∨ v = 1) : narrow .boolean (.int v) = .int v := by
  rcases h with e | e <;> (subst e; decide)
def ckI (ty : FieldType) (v : Int32) : MM Int32 := if narrow ty (.int v) = .int v then mr v else mf
theorem sn_ck {a : Int32} {ty : FieldType} {f : Int32 → MM α} (kk : ∀ v, narrow ty (.int v) = .int v → Sn G y cc mL ret F Lr cvt (f v) pc L (.int v :: st)) : Sn G y cc mL ret F Lr cvt (mb (ckI ty a) f) pc L (.int a :: st) := fun h r h' e => by
  unfold mb ckI at e
  split at e
  · cases e
  · rename_i q hq
    split at hq
    · rename_i h01
      cases hq
      exact kk a h01 h r h' e
    · cases hq
theorem sn_or {d : Prop} [Decidable d] {A B : MM α} (kt : d → Sn G y cc mL ret F Lr cvt A pc L st) (kf : ¬ d → Sn G y cc mL ret F Lr cvt B pc L st) : Sn G y cc mL ret F Lr cvt (if d then A else B) pc L st := by
  by_cases h : d
  · rw [if_pos h]; exact kt h
  · rw [if_neg h]; exact kf h
theorem sn_tsI {dflt lo hi : Int} {offs : Array Int} {len pt : Nat} {a : Int32} {off : Int} (hd : decode cc pc = .ok (.tableswitch dflt lo hi offs, len)) (h1 : ¬ a.toInt < lo) (h2 : ¬ hi < a.toInt) (ho : offs[(a.toInt - lo).toNat]? = some off) (ht : (pc : Int) + off = (pt : Int))
    (k : Sn G y cc mL ret F Lr cvt x pt L st) : Sn G y cc mL ret F Lr cvt x pc L (.int a :: st) :=
  sn_step (fun p l e R s m args below meth c H locs cells slots ls Q hC hL kk => lv_tableIn hC.1 hC.2.1 hd h1 h2 ho ht (kk ls hL)) k
theorem sn_tsO {dflt lo hi : Int} {offs : Array Int} {len pt : Nat} {a : Int32} (hd : decode cc pc = .ok (.tableswitch dflt lo hi offs, len)) (h1 : a.toInt < lo ∨ hi < a.toInt) (ht : (pc : Int) + dflt = (pt : Int))
    (k : Sn G y cc mL ret F Lr cvt x pt L st) : Sn G y cc mL ret F Lr cvt x pc L (.int a :: st) :=
  sn_step (fun p l e R s m args below meth c H locs cells slots ls Q hC hL kk => lv_tableOut hC.1 hC.2.1 hd h1 ht (kk ls hL)) k
theorem ts_out {a : Int32} (lo n : Nat) (hb : lo + n < 1000) (h : ∀ j : Nat, lo ≤ j → j < lo + n → ¬ a = nI j) : a.toInt < (lo : Int) ∨ ((lo + n : Nat) : Int) - 1 < a.toInt := by
  by_cases h1 : a.toInt < (lo : Int)
  · exact Or.inl h1
  · by_cases h2 : ((lo + n : Nat) : Int) - 1 < a.toInt
    · exact Or.inr h2
    · exfalso
      refine h a.toInt.toNat (by omega) (by omega) ?_
      apply Int32.toInt_inj.mp
      rw [nI_toInt (by omega)]
      omega
end SE
theorem ci_0 : CI 0 RJ0 TJ0 4 tyJ0 := ⟨rfl, by decide +kernel, tyJ0_ok, nmJ0⟩
theorem ci_1 : CI 1 RJ4 TJ4 4 tyJ4 := ⟨rfl, by decide +kernel, tyJ4_ok, nmJ4⟩
theorem ci_2 : CI 2 RX0 TX0 7 tyX0 := ⟨rfl, by decide +kernel, tyX0_ok, nmX0⟩
theorem ci_3 : CI 3 RX1 TX1 3 tyX1 := ⟨rfl, by decide +kernel, tyX1_ok, nmX1⟩
theorem ci_4 : CI 4 RX2 TX2 8 tyX2 := ⟨rfl, by decide +kernel, tyX2_ok, nmX2⟩
theorem ci_5 : CI 5 RX4 TX4 5 tyX4 := ⟨rfl, by decide +kernel, tyX4_ok, nmX4⟩
theorem ci_6 : CI 6 RX5 TX5 4 tyX5 := ⟨rfl, by decide +kernel, tyX5_ok, nmX5⟩
theorem ci_7 : CI 7 RX6 TX6 6 tyX6 := ⟨rfl, by decide +kernel, tyX6_ok, nmX6⟩
theorem ci_8 : CI 8 RX7 TX7 6 tyX7 := ⟨rfl, by decide +kernel, tyX7_ok, nmX7⟩
theorem ci_9 : CI 9 RX8 TX8 2 tyX8 := ⟨rfl, by decide +kernel, tyX8_ok, nmX8⟩
theorem ci_10 : CI 10 RX9 TX9 1 tyX9 := ⟨rfl, by decide +kernel, tyX9_ok, nmX9⟩
theorem ci_11 : CI 11 RX10 TX10 5 tyX10 := ⟨rfl, by decide +kernel, tyX10_ok, nmX10⟩
theorem ci_12 : CI 12 RX11 TX11 12 tyX11 := ⟨rfl, by decide +kernel, tyX11_ok, nmX11⟩
theorem ci_13 : CI 13 RX12 TX12 49 tyX12 := ⟨rfl, by decide +kernel, tyX12_ok, nmX12⟩
