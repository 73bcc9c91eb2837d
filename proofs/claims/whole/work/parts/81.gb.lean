/-! ===== what the tables say at the start; the ground of all ===== -/
section GBB
variable {args : Array Value} {s : State} {b L : Nat} {xs : Nat → Int32}
theorem as_use (hts : ∀ w ∈ lw_tbl, w.before args s = true) (y : MethodName) (i j : Nat) (hy : y.cls = "java/lang/AbstractStringBuilder") (hi : lw_tbl[93 + i]? = some (.privateMethod y)) (hj : lw_tbl[93 + j]? = some (.instanceMethod y)) : (Cond.selects "java/lang/StringBuilder" y y).before args s = true :=
  sel_sb (n := 4) (sup := "java/lang/AbstractStringBuilder") (yq := ⟨"java/lang/AbstractStringBuilder", "isLatin1", "()Z"⟩) hy ⟨by decide +kernel, by decide +kernel⟩ (tb_use hts (93 + 234) (by decide +kernel)) (tb_use hts (93 + 264) (by decide +kernel)) (tb_use hts _ hi) (tb_use hts _ hj) rfl (tb_use hts (93 + 629) (by decide +kernel))
theorem gt_all (hts : ∀ w ∈ lw_tbl, w.before args s = true) : ∀ w ∈ gtbl, w.before args s = true := by
  intro w hw
  rcases List.mem_append.mp (List.mem_filter.mp hw).1 with h | h
  · obtain ⟨y, hy, rfl⟩ := List.mem_map.mp h
    have key : ∀ y ∈ as_m, (Cond.selects "java/lang/StringBuilder" y y).before args s = true := by
      unfold as_m
      exact List.forall_mem_cons.mpr ⟨as_use hts _ 596 597 rfl (by decide +kernel) (by decide +kernel), List.forall_mem_cons.mpr ⟨as_use hts _ 600 601 rfl (by decide +kernel) (by decide +kernel), List.forall_mem_cons.mpr ⟨as_use hts _ 721 722 rfl (by decide +kernel) (by decide +kernel), List.forall_mem_cons.mpr ⟨as_use hts _ 725 726 rfl (by decide +kernel) (by decide +kernel), fun _ q => absurd q List.not_mem_nil⟩⟩⟩⟩
    exact key y hy
  · exact hts w h
theorem cl_all (hts : ∀ w ∈ lw_tbl, w.before args s = true) : ∀ r ∈ vwCl, ∃ (cC : ClassId) (iS : Nat → Nat), u_Kn s r.1 r.2.1 r.2.2 cC iS :=
  List.forall_mem_cons.mpr ⟨u_known (n := 4) (gt_all hts) ci_0.2.1 (tb_use hts (93 + 796) (by decide +kernel)), List.forall_mem_cons.mpr ⟨u_known (n := 4) (gt_all hts) ci_1.2.1 (tb_use hts (93 + 234) (by decide +kernel)), List.forall_mem_cons.mpr ⟨u_known (n := 7) (gt_all hts) ci_2.2.1 (tb_use hts (93 + 583) (by decide +kernel)), List.forall_mem_cons.mpr ⟨u_known (n := 3) (gt_all hts) ci_3.2.1 (tb_use hts (93 + 212) (by decide +kernel)), List.forall_mem_cons.mpr ⟨u_known (n := 8) (gt_all hts) ci_4.2.1 (tb_use hts (93 + 971) (by decide +kernel)), List.forall_mem_cons.mpr ⟨u_known (n := 5) (gt_all hts) ci_5.2.1 (tb_use hts (93 + 92) (by decide +kernel)), List.forall_mem_cons.mpr ⟨u_known (n := 4) (gt_all hts) ci_6.2.1 (tb_use hts (93 + 126) (by decide +kernel)), List.forall_mem_cons.mpr ⟨u_known (n := 6) (gt_all hts) ci_7.2.1 (tb_use hts (93 + 181) (by decide +kernel)), List.forall_mem_cons.mpr ⟨u_known (n := 6) (gt_all hts) ci_8.2.1 (tb_use hts (93 + 86) (by decide +kernel)), List.forall_mem_cons.mpr ⟨u_known (n := 2) (gt_all hts) ci_9.2.1 (tb_use hts (93 + 42) (by decide +kernel)), List.forall_mem_cons.mpr ⟨u_known (n := 1) (gt_all hts) ci_10.2.1 (tb_use hts (93 + 228) (by decide +kernel)), List.forall_mem_cons.mpr ⟨u_known (n := 5) (gt_all hts) ci_11.2.1 (tb_use hts (93 + 36) (by decide +kernel)), List.forall_mem_cons.mpr ⟨u_known (n := 12) (gt_all hts) ci_12.2.1 (tb_use hts (93 + 28) (by decide +kernel)), List.forall_mem_cons.mpr ⟨u_known (n := 49) (gt_all hts) ci_13.2.1 (tb_use hts (93 + 1273) (by decide +kernel)), fun _ q => absurd q List.not_mem_nil⟩⟩⟩⟩⟩⟩⟩⟩⟩⟩⟩⟩⟩⟩
theorem arr_p {ty : FieldType} (hR : ∀ cA : ClassId, s.vm.findClass ("[" ++ ty.toString) = some cA → va_RA s cA ty) (h : (Cond.arrayClass ty).before args s = true) : ∃ c : ClassId, ArrOfT s c ty ∧ va_RA s c ty := by
  obtain ⟨c, k, comp, h1, h2, h3⟩ := Cond.arrayClass_spec h
  exact ⟨c, fun n z => ⟨(fun q hq => by cases hq), k, h2, comp, h3⟩, hR c h1⟩
theorem arr_q {C : String} (h : (Cond.arrayOver (.object C)).before args s = true) : ∃ c : ClassId, ArrOfT s c (.object C) ∧ va_RA s c (.object C) := by
  obtain ⟨comp, c, k, h1, -, h3, h4, h5⟩ := Cond.arrayOver_spec h
  exact ⟨c, fun n z => ⟨(fun q hq => by cases hq), k, h3, comp, h4⟩, k, comp, h3, h4, h1, h5⟩
theorem vK_all (hts : ∀ w ∈ lw_tbl, w.before args s = true) : ∃ (D : va_G) (fn : Nat → ClassId), va_K D vwCl [(fn 0, .int), (fn 1, .byte), (fn 2, .boolean), (fn 3, .object RX0), (fn 4, .object RX2)] s := by
  have h0 : ∀ c : Nat, ∃ q : ClassId × (Nat → Nat), ∀ r : vw_C, vwCl[c]? = some r → u_Kn s r.1 r.2.1 r.2.2 q.1 q.2 := by
    intro c
    cases hc : vwCl[c]? with
    | none => exact ⟨(0, fun _ => 0), fun r h => by cases h⟩
    | some r =>
      obtain ⟨cC, iS, h⟩ := cl_all hts r (List.mem_of_getElem? hc)
      exact ⟨(cC, iS), fun r' h' => by cases h'; exact h⟩
  obtain ⟨q, hq⟩ := Classical.axiomOfChoice h0
  obtain ⟨c0, i0⟩ := arr_p (ty := .int) (fun _ h => h) (tb_use hts (93 + 64) (by decide +kernel))
  obtain ⟨c1, i1⟩ := arr_p (ty := .byte) (fun _ h => h) (tb_use hts (93 + 63) (by decide +kernel))
  obtain ⟨c2, i2⟩ := arr_p (ty := .boolean) (fun _ h => h) (tb_use hts (93 + 1426) (by decide +kernel))
  obtain ⟨c3, i3⟩ := arr_q (C := RX0) (tb_use hts (93 + 270) (by decide +kernel))
  obtain ⟨c4, i4⟩ := arr_q (C := RX2) (tb_use hts (93 + 272) (by decide +kernel))
  refine ⟨(fun c => (q c).1, fun c => (q c).2), fun k => [c0, c1, c2, c3, c4].getD k 0, fun c r h => hq c r h, fun k r h => ?_⟩
  have key : ∀ r ∈ ([(c0, .int), (c1, .byte), (c2, .boolean), (c3, .object RX0), (c4, .object RX2)] : List (ClassId × FieldType)), ArrOfT s r.1 r.2 ∧ va_RA s r.1 r.2 := List.forall_mem_cons.mpr ⟨i0, List.forall_mem_cons.mpr ⟨i1, List.forall_mem_cons.mpr ⟨i2, List.forall_mem_cons.mpr ⟨i3, List.forall_mem_cons.mpr ⟨i4, fun _ q => absurd q List.not_mem_nil⟩⟩⟩⟩⟩
  exact key r (List.mem_of_getElem? h)
theorem nt_all (hts : ∀ w ∈ lw_tbl, w.before args s = true) : ∀ w ∈ ntbl, va_Nw w s := by
  intro w hw
  have hn : isNest w = true := (List.mem_filter.mp hw).2
  have h := hts w (List.mem_append_right _ (List.mem_filter.mp hw).1)
  cases w <;> first | (exfalso; cases hn; done) | exact va_Nw.of rfl h | (rename_i ty; cases ty <;> first | exact va_AO.of h | (exfalso; cases hn))
theorem KR_of {G : GG} (hG : G.1 = s.heap.size) (hb : b < s.heap.size) {a : Nat} (h : Kc s b L xs a (G.2.2.2.1 a) ∨ G.2.2.2.1 a = .inr (15, [])) : KR G a s := by
  obtain ⟨x, D, fn, f, rf⟩ := G
  have hG : x = s.heap.size := hG
  subst hG
  have hA : gA (s.heap.size, D, fn, f, rf) = A0 s := rfl
  unfold KR
  rw [hA]
  have h : Kc s b L xs a (f a) ∨ f a = .inr (15, []) := h
  show (match f a with
  | .inl (t, n, .inl f) => (t = 10 ∧ va_T .int a n (fun j => .int (f j)) (A0 s) s s.heap) ∨ (t = 11 ∧ (∀ j, fits .byte (.int (f j)) = true) ∧ va_T .byte a n (fun j => .int (f j)) (A0 s) s s.heap)
  | .inl _ => False
  | .inr o => (o.1 = 14 ∧ o.2.length ≤ 2 ∧ va_O "java/lang/String" a (A0 s) s s.heap ∧ ∀ k v, o.2[k]? = some v → va_OF (TJ0 k).1 (TJ0 k).2.1 (TJ0 k).2.2.1 v a (A0 s) s s.heap) ∨ o = (15, []))
  rcases h with (⟨e, rfl, scr, h2, h3, h4, h5, h6⟩ | ⟨n, g, e, hn, hg, hf, hT⟩ | ⟨v, e, h1, h2, h3⟩) | e
  · rw [e]
    exact Or.inl ⟨rfl, scr, h2, h3, h4, Nat.le_of_eq h5.symm, by rw [h5], h6, A0_no s _ hb⟩
  · rw [e]
    exact Or.inr ⟨rfl, hf, hT⟩
  · rw [e]
    refine Or.inl ⟨rfl, Nat.le_refl _, h1, fun k w hk => ?_⟩
    rcases k with _ | _ | k
    · have : w = .ref v := (Option.some.inj hk).symm
      subst this
      exact h3
    · have : w = .int 0 := (Option.some.inj hk).symm
      subst this
      exact h2
    · cases hk
  · rw [e]
    exact Or.inr rfl
theorem gb_start (hts : ∀ w ∈ lw_tbl, w.before args s = true) (hgv : (Jvm.Cond.and given_1 narrow_1).before args s = true) (hX : va_X b L xs s s.heap) (hb : b < s.heap.size) : ∃ (D : va_G) (fn : Nat → ClassId) (f : Nat → va_E) (rf : Nat → Option Nat), GB (s.heap.size, D, fn, f, rf) s ∧ f b = .inl (10, L, .inl xs) ∧
    (∀ i, i < 19 → ∃ (a v : Nat), rf i = some a ∧ a < s.heap.size ∧ v < s.heap.size ∧ f a = .inr (14, [.ref v, .int 0]) ∧ f v = .inl (11, (txt i).length, .inl fun j => if j < (txt i).length then nI ((txt i).getD j 0) else 0)) ∧
    ∃ d1 d2 : Nat, rf 20 = some d1 ∧ rf 21 = some d2 ∧ d1 < s.heap.size ∧ d2 < s.heap.size ∧ f d1 = .inl (11, 100, .inl fun j => if j < 100 then nI (48 + j % 10) else 0) ∧ f d2 = .inl (11, 100, .inl fun j => if j < 100 then nI (48 + j / 10) else 0) := by
  obtain ⟨D, fn, hK⟩ := vK_all hts
  have hS : ∃ cC, ClassAt s "java/lang/String" cC := ⟨D.1 0, (hK.1 0 _ rfl).2⟩
  obtain ⟨f, hf1, hf2⟩ := fC_ex (b := b) (L := L) (xs := xs) hS
  have h0 : ∀ i : Nat, ∃ q : Nat × Nat, i < 19 → (tS i).eval args s none [] s = some (.ref q.1) ∧ q.1 < s.heap.size ∧ q.2 < s.heap.size ∧ f q.1 = .inr (14, [.ref q.2, .int 0]) ∧ f q.2 = .inl (11, (txt i).length, .inl fun j => if j < (txt i).length then nI ((txt i).getD j 0) else 0) := by
    intro i
    by_cases hi : i < 19
    · obtain ⟨a, v, g1, g2, g3, g4, g5⟩ := str_at (b := b) (L := L) (xs := xs) hgv hi
      exact ⟨(a, v), fun _ => ⟨g1, g2, g3, hf1 _ _ g4, hf1 _ _ g5⟩⟩
    · exact ⟨(0, 0), fun h => absurd h hi⟩
  obtain ⟨q, hq⟩ := Classical.axiomOfChoice h0
  obtain ⟨d1, a1, a2, a3⟩ := row_of (b := b) (L := L) (xs := xs) (tm := tD1) (n := 100) (g := fun j => nI (48 + j % 10)) (by decide) (nl_use hgv _ nl_10) (nl_use hgv _ nl_11) (fun j hj => nl_use hgv _ (nl_d1 j hj)) d1_fit
  obtain ⟨d2, b1, b2, b3⟩ := row_of (b := b) (L := L) (xs := xs) (tm := tD2) (n := 100) (g := fun j => nI (48 + j / 10)) (by decide) (nl_use hgv _ nl_113) (nl_use hgv _ nl_114) (fun j hj => nl_use hgv _ (nl_d2 j hj)) d2_fit
  have hz := va_Zqof (A := A0 s) (tb_use hts (93 + 447) (by decide +kernel)) (tb_use hts (93 + 17) (by decide +kernel)) (nl_use hgv _ nl_5) (A0_no s)
  have hz' : ∃ r : Option Nat, va_Z "jdk/internal/util/Preconditions" "SIOOBE_FORMATTER" "Ljava/util/function/BiFunction;" (va_rf r) (A0 s) s s.heap := by
    rcases hz with h | ⟨t, h⟩
    · exact ⟨none, h⟩
    · exact ⟨some t, h⟩
  obtain ⟨r22, hr⟩ := hz'
  obtain ⟨rf, e1, e20, e21, e22⟩ : ∃ rf : Nat → Option Nat, (∀ i, i < 19 → rf i = some (q i).1) ∧ rf 20 = some d1 ∧ rf 21 = some d2 ∧ rf 22 = r22 := ⟨fun i => if i < 19 then some (q i).1 else if i = 20 then some d1 else if i = 21 then some d2 else r22, fun i hi => if_pos hi, rfl, rfl, rfl⟩
  refine ⟨D, fn, f, rf, ⟨hK, nt_all hts, fun k hk => ?_, ?_, ?_, fun a ha => KR_of (b := b) (L := L) (xs := xs) rfl hb (hf2 a)⟩, hf1 b _ (Or.inl ⟨rfl, rfl, hX⟩), fun i hi => ⟨(q i).1, (q i).2, e1 i hi, (hq i hi).2⟩, d1, d2, e20, e21, a2, b2, hf1 _ _ a3, hf1 _ _ b3⟩
  · obtain ⟨i, hi⟩ := List.getElem?_of_mem hk
    have hl : i < 19 := (List.getElem?_eq_some_iff.mp hi).1
    obtain ⟨k1, k2⟩ := kS_at i hl
    rw [hi] at k1
    have k1 := Option.some.inj k1
    subst k1
    rw [k2]
    exact ⟨(q i).1, e1 i hl, vk_R.of (tb_use hts _ (lt_sr i hl)) (hq i hl).1⟩
  · exact List.forall_mem_cons.mpr ⟨va_Zof (tb_use hts (93 + 243) (by decide +kernel)) (tb_use hts (93 + 13) (by decide +kernel)) (va_eqi (nl_use hgv _ nl_4)) (A0_no s), fun _ q => absurd q List.not_mem_nil⟩
  · refine List.forall_mem_cons.mpr ⟨?_, List.forall_mem_cons.mpr ⟨?_, List.forall_mem_cons.mpr ⟨?_, fun _ q => absurd q List.not_mem_nil⟩⟩⟩
    · show va_Z "java/lang/Integer" "DigitOnes" "[B" (va_rf (rf 20)) (A0 s) s s.heap
      rw [e20]
      exact va_Zref (tb_use hts (93 + 763) (by decide +kernel)) (tb_use hts (93 + 25) (by decide +kernel)) a1 (A0_no s)
    · show va_Z "java/lang/Integer" "DigitTens" "[B" (va_rf (rf 21)) (A0 s) s s.heap
      rw [e21]
      exact va_Zref (tb_use hts (93 + 765) (by decide +kernel)) (tb_use hts (93 + 25) (by decide +kernel)) b1 (A0_no s)
    · show va_Z "jdk/internal/util/Preconditions" "SIOOBE_FORMATTER" "Ljava/util/function/BiFunction;" (va_rf (rf 22)) (A0 s) s s.heap
      rw [e22]
      exact hr
end GBB
