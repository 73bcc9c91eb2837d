/-! ===== where a reader is right, the place of what is wrong stays ===== -/
def Pn {α : Type} (x : JM α) : Prop := ∀ J v J', x J = some (v, J') → js J' 5 0 = js J 5 0
def Pz (x : JM Int) : Prop := ∀ J v J', x J = some (v, J') → v ≠ 0 → js J' 5 0 = js J 5 0
section PZZ
variable {α β : Type}
theorem pn_b {x : JM β} {f : β → JM α} (h1 : Pn x) (h2 : ∀ v, Pn (f v)) : Pn (ib x f) := fun J v J' e => by
  unfold ib at e
  cases hx : x J with
  | none => rw [hx] at e; cases e
  | some q => rw [hx] at e; exact (h2 q.1 q.2 v J' e).trans (h1 J q.1 q.2 hx)
theorem pz_b {x : JM β} {f : β → JM Int} (h1 : Pn x) (h2 : ∀ v, Pz (f v)) : Pz (ib x f) := fun J v J' e hv => by
  unfold ib at e
  cases hx : x J with
  | none => rw [hx] at e; cases e
  | some q => rw [hx] at e; exact (h2 q.1 q.2 v J' e hv).trans (h1 J q.1 q.2 hx)
theorem pn_ig {c : Prop} {d : Decidable c} {x : JM α} (h : Pn x) : Pn (ig c x) := fun J v J' e => by
  unfold ig at e
  split at e
  · exact h J v J' e
  · cases e
theorem pz_ig {c : Prop} {d : Decidable c} {x : JM Int} (h : Pz x) : Pz (ig c x) := fun J v J' e hv => by
  unfold ig at e
  split at e
  · exact h J v J' e hv
  · cases e
theorem pn_ite {c : Prop} {d : Decidable c} {x y : JM α} (h : Pn x) (h' : Pn y) : Pn (@ite _ c d x y) := by
  split <;> assumption
theorem pz_ite {c : Prop} {d : Decidable c} {x y : JM Int} (h : Pz x) (h' : Pz y) : Pz (@ite _ c d x y) := by
  split <;> assumption
theorem pn_ret {a : α} : Pn (jret a) := fun J v J' e => by cases e; rfl
theorem pn_z {x : JM Int} (h : Pn x) : Pz x := fun J v J' e _ => h J v J' e
/-- what ends in 0 -/
theorem pz_0 : Pz (jret 0) := pn_z pn_ret
theorem pz_e {x : JM β} : Pz (ib x fun _ => jret 0) := fun J v J' e hv => by
  unfold ib at e
  cases hx : x J with
  | none => rw [hx] at e; cases e
  | some q => rw [hx] at e; cases e; exact absurd rfl hv
/-- one that must be right -/
theorem pz_t {x : JM Int} {B : Int → JM Int} (h1 : Pz x) (h2 : ∀ v, Pz (B v)) : Pz (ib x fun v => ig (R32 v) <| if v = 0 then (jret 0) else (B v)) := fun J v J' e hv => by
  unfold ib at e
  cases hx : x J with
  | none => rw [hx] at e; cases e
  | some q =>
    rw [hx] at e
    simp only [ig] at e
    split at e
    · split at e
      · cases e; exact absurd rfl hv
      · rename_i h0
        exact (h2 q.1 q.2 v J' e hv).trans (h1 J q.1 q.2 hx h0)
    · cases e
theorem pn_opt {x : JM α} (h : ∀ J, wp x (fun _ J' => js J' 5 0 = js J 5 0) J ∨ x J = none) : Pn x := fun J v J' e => by
  rcases h J with h | h
  · rw [wp_ret e] at h; exact h
  · rw [h] at e; cases e
theorem pn_i {x : JM α} {c : JS → Prop} {d : ∀ J, Decidable (c J)} {a : JS → α} {V : JS → JS} (h : ∀ J, x J = @ite _ (c J) (d J) (some (a J, V J)) none) (hV : ∀ J, js (V J) 5 0 = js J 5 0) : Pn x := fun J v J' e => by
  rw [h] at e
  split at e
  · cases e; exact hV J
  · cases e
theorem pn_G {t i : Nat} : Pn (jG t i) := pn_i (fun _ => rfl) fun _ => rfl
theorem pn_E {q : Nat × Nat} : Pn (jE q) := pn_i (fun _ => rfl) fun _ => rfl
theorem pn_N {t i : Nat} : Pn (jN t i) := pn_i (fun _ => rfl) fun _ => rfl
theorem pn_A {t i : Nat} {k : Int} : Pn (jA t i k) := pn_i (fun _ => rfl) fun _ => rfl
theorem pn_P {t i : Nat} {v : Int} (h : t ≠ 5) : Pn (jP t i v) := pn_i (fun _ => rfl) fun J => by rw [ju1_s, if_neg (by omega)]
theorem pn_S {t i : Nat} {k v : Int} : Pn (jS t i k v) := pn_i (fun _ => rfl) fun _ => rfl
theorem pn_add {id : Nat} {v : Int} : Pn (G8_add id v) := by
  unfold G8_add
  refine pn_b pn_G fun _ => pn_b pn_E fun _ => pn_b pn_N fun _ => pn_ig (pn_ig (pn_ite ?_ pn_ret))
  exact pn_b pn_E fun _ => pn_b pn_G fun _ => pn_b (pn_P (by decide)) fun _ => pn_b pn_S fun _ => pn_ret
theorem pn_get {id : Nat} {v : Int} : Pn (G8_get id v) := by
  unfold G8_get
  exact pn_ig (pn_ite pn_ret (pn_b pn_G fun _ => pn_ig (pn_ite (pn_b pn_E fun _ => pn_b pn_A fun _ => pn_ret) pn_ret)))
theorem pz_takes {k : Int} : Pz (G7_takes k) := by
  unfold G7_takes
  refine pz_b pn_G fun _ => pz_b pn_get fun _ => pz_ig (pz_ig (pz_ite ?_ ?_))
  · exact pn_z (pn_b pn_G fun _ => pn_b pn_get fun _ => pn_b (pn_P (by decide)) fun _ => pn_b pn_G fun _ => pn_b (pn_P (by decide)) fun _ => pn_ret)
  · exact pz_b pn_G fun _ => pz_b pn_get fun _ => pz_e
theorem pn_skips {k : Int} : Pn (G7_skips k) := by
  unfold G7_skips
  exact pn_b pn_G fun _ => pn_b pn_get fun _ => pn_ig (pn_ig (pn_ite (pn_b pn_G fun _ => pn_b (pn_P (by decide)) fun _ => pn_ret) pn_ret))
theorem pz_readsChange : Pz G7_readsChange := by
  have h127 : ∀ x y z, Pz (G7_readsChange_127 x y z) := fun x y z => by
    unfold G7_readsChange_127
    exact pn_z (pn_b pn_E fun _ => pn_b pn_add fun _ => pn_b pn_add fun _ => pn_ret)
  have h106 : ∀ x, Pz (G7_readsChange_106 x) := fun x => by
    unfold G7_readsChange_106
    exact pz_ig (pz_ite (pz_b pn_G fun _ => h127 _ _ _) (h127 _ _ _))
  have h30 : ∀ x, Pz (G7_readsChange_30 x) := fun x => by
    unfold G7_readsChange_30
    refine pz_t pz_takes fun _ => pz_b pn_G fun _ => pz_b pn_add fun _ => pz_t pz_takes fun _ => pz_b pn_G fun _ => pz_b pn_add fun _ => pz_ig (pz_ite ?_ (h106 _))
    exact pz_t pz_takes fun _ => pz_t pz_takes fun _ => h106 _
  unfold G7_readsChange
  exact pz_b pn_skips fun _ => pz_ig (pz_ite (pz_b pn_skips fun _ => pz_ig (pz_ite (h30 _) (h30 _))) (h30 _))
theorem pz_list : ∀ (m : Nat) (x : Int), Pz (G7_readsChangeList_2 m x) := by
  intro m
  induction m with
  | zero => intro x J v J' e; cases e
  | succ m ih =>
    intro x
    unfold G7_readsChangeList_2 G7_readsChangeList_2_st
    exact pz_ig (pz_ite pz_0 (pz_t pz_readsChange fun _ => pz_b pn_skips fun _ => pz_ig (pz_ite (pn_z pn_ret) (ih _))))
theorem pz_readsGroup : Pz G7_readsGroup := by
  have h159 : Pz G7_readsGroup_159 := by
    unfold G7_readsGroup_159 G5_amount
    exact pn_z (pn_b (pn_b pn_G fun _ => pn_ret) fun _ => pn_b pn_add fun _ => pn_ret)
  have h117 : Pz G7_readsGroup_117 := by
    unfold G7_readsGroup_117 G7_readsChangeList
    exact pz_b pn_G fun _ => pz_b pn_add fun _ => pz_b pn_skips fun _ => pz_ig (pz_ite h159 (pz_t (pz_list _ _) fun _ => pz_t pz_takes fun _ => h159))
  have h65 : ∀ x y z, Pz (G7_readsGroup_65 x y z) := fun x y z => by
    unfold G7_readsGroup_65
    refine pz_b pn_E fun _ => pz_b pn_add fun _ => pz_t pz_takes fun _ => pz_b pn_G fun _ => pz_b pn_add fun _ => pz_ig (pz_ite h117 ?_)
    exact pz_b pn_skips fun _ => pz_ig (pz_ite h117 (pz_t pz_takes fun _ => h117))
  have h46 : ∀ x, Pz (G7_readsGroup_46 x) := fun x => by
    unfold G7_readsGroup_46
    exact pz_ig (pz_ite (h65 _ _ _) (pz_b pn_G fun _ => h65 _ _ _))
  unfold G7_readsGroup
  exact pz_t pz_takes fun _ => pz_b pn_G fun _ => pz_b pn_add fun _ => pz_b pn_skips fun v => pz_ig (pz_ite (h46 v) (pz_t pz_takes fun _ => h46 v))
theorem pz_formula : ∀ (m : Nat) (x : Int), Pz (G7_readsFormula_6 m x) := by
  intro m
  induction m with
  | zero => intro x J v J' e; cases e
  | succ m ih =>
    intro x
    unfold G7_readsFormula_6 G7_readsFormula_6_st
    exact pz_ig (pz_ite pz_0 (pz_t pz_readsGroup fun _ => pz_b pn_skips fun _ => pz_ig (pz_ite (ih _) (pn_z pn_ret))))
theorem pz_name (x : Int) : Pz (G7_readsOneName x) := by
  have h90 : ∀ x y z, Pz (G7_readsOneName_90 x y z) := fun x y z => by
    unfold G7_readsOneName_90
    exact pn_z (pn_b pn_E fun _ => pn_b pn_add fun _ => pn_b pn_add fun _ => pn_ret)
  have h71 : ∀ x y, Pz (G7_readsOneName_71 x y) := fun x y => by
    unfold G7_readsOneName_71
    exact pz_ig (pz_ite (h90 _ _ _) (pz_b pn_G fun _ => h90 _ _ _))
  unfold G7_readsOneName
  refine pz_t pz_takes fun _ => pz_b pn_G fun _ => pz_b pn_add fun _ => pz_t pz_takes fun _ => pz_b pn_G fun _ => pz_b pn_add fun _ => pz_b pn_skips fun v => pz_ig (pz_ite (h71 _ _) ?_)
  exact pz_t pz_takes fun _ => h71 _ _
theorem pz_row : ∀ (m : Nat) (x : Int), Pz (G7_readsRow_6 m x) := by
  intro m
  induction m with
  | zero => intro x J v J' e; cases e
  | succ m ih =>
    intro x
    have h40 : Pz (G7_readsRow_40 (G7_readsRow_6 m) x) := by
      unfold G7_readsRow_40
      exact pz_b pn_skips fun _ => pz_ig (pz_ite (ih _) (pn_z pn_ret))
    unfold G7_readsRow_6 G7_readsRow_6_st
    exact pz_ig (pz_ite pz_0 (pz_t (pz_name _) fun _ => pz_b pn_skips fun _ => pz_ig (pz_ite h40 (pz_t (pz_name _) fun _ => h40))))
end PZZ
