/-! ===== book ===== -/
/-- both answer the same, and go on to agree -/
def Sm2 (x : IM Int) (y : JM Int) (W : IS) (J : JS) : Prop := wp x (fun r W' => wp y (fun r' J' => r' = r ∧ Inv W' J') J) W
section PBK
variable {W : IS} {J : JS}
theorem TpR.z {T : Int → Int} {J' : JS} (h : js J' 2 0 = 0) : TpR J' T 0 := ⟨h, ⟨⟨Int.le_refl _, by omega⟩, fun i i0 i1 => by omega⟩, fun i i0 i1 => by omega⟩
theorem TpR.eq {T : Int → Int} {n : Int} {J' : JS} (hT : TpR J T n) (hs : js J' 2 0 = js J 2 0) (ha : ja J' 2 0 = ja J 2 0) : TpR J' T n := by
  unfold TpR
  rw [hs, ha]
  exact hT
/-- a book more -/
theorem Inv.book {W' : IS} {J2 J' : JS} {B : BK} (hI : Inv W J) (k2 : JKp J J2) (r2 : J2.2.2 = J.2.2) (s2 : js J2 8 0 = js J 8 0 ∧ js J2 9 0 = js J 9 0) (hx : jB J < 8) (hN : NbR J2 J' (bkT B)) (hw : WKp W W' (jB J) (jC J)) (hBk : BkI W' (jB J : Int)) (hP : PlR J' (jB J + 1) B) (hL : CLf J' (jB J) B (LC B)) (hA : AhL J' (jB J) B (bn B) 1) (eB : mB W' (jB J : Int) = B) (h1 : W'.1 1 = 0) (h5 : W'.1 5 = W.1 5 + 1) (h15 : W'.1 15 = W.1 15) (h3 : js J2 5 0 = W'.1 3) (h4 : js J2 10 0 = W'.1 4) (h2 : W'.1 2 = 0) : Inv W' J' := by
  obtain ⟨i1, i2, i3, i4, i5, i6, i7⟩ := hI
  have eb := jB_r r2
  have ec := jC_r r2
  have k : JKp J J' := k2.trans (hN.kp (by omega))
  obtain ⟨n1, n2, ⟨n3, n3', n3''⟩, ⟨n4, n4', n4''⟩, n5, n6, n7, n8, n9, n10⟩ := hN
  refine ⟨i1.kp k, ?_, ?_, ?_, ?_, fun b hb => ?_, fun c hc => (i7 c (by omega)).kp (by omega) i6 k hw⟩
  · rw [h1]
    exact TpR.z n3
  · rw [n3', s2.1, n4, eb, h5]
    omega
  · rw [n1 9 0 (by omega), s2.2, n4', ec, h15]
    exact i4
  · rw [n1 5 0 (by omega), n1 10 0 (by omega), n3'', h3, h4, h2]
    exact ⟨rfl, rfl, rfl⟩
  · by_cases c : b = jB J
    · subst c
      subst eB
      refine ⟨by rw [n5, eb, if_pos rfl], hBk, BoR.of (by omega) hBk hP hL hA, ?_, ?_⟩
      · rw [n8, eb, if_pos rfl]; omega
      · rw [n8, eb, if_pos rfl, n7, if_pos rfl]
    · exact (i6 b (by omega)).kp (by omega) k (hw.1 b (by omega))
/-- the older books, the copies are kept where a book is made -/
theorem WKp.book {x : Int} {nc : Nat} {W1 W2 W3 W4 : IS} {n5 n2 : Int} (h1 : ∀ k, k < 26 → W1.2 k = W.2 k) (h2 : W2.2 = W1.2) (h3 : FrB x (iu2 W2 6 x 0) W3) (h4 : FrL x W3 W4) {xn : Nat} (hx : x = (xn : Int)) : WKp W (iu1 (iu1 W4 5 n5) 2 n2) xn nc := by
  have e : ∀ k, k < 6 ∨ 10 < k → W3.2 k = W2.2 k := fun k hk => by
    rw [h3.2.1 k hk]
    funext l
    rw [iu2_2, if_neg (by omega)]
  have e2 : ∀ k l, k < 26 → W2.2 k l = W.2 k l := fun k l hk => by rw [h2, h1 k hk]
  have e6 : ∀ k l, k ≠ 6 → (iu2 W2 6 x 0).2 k l = W2.2 k l := fun k l hk => by rw [iu2_2, if_neg (by omega)]
  have g : ∀ k l, ¬ inL x k l → k < 26 → (k < 6 ∨ 10 < k) → W4.2 k l = W.2 k l := fun k l q q1 q2 => by
    rw [h4.2 k l q, e k q2, e2 k l q1]
  refine ⟨fun b hb => ?_, fun c hc => ?_⟩
  · refine ⟨?_, fun p p0 p1 => ⟨?_, ?_, fun i i0 i1 => ⟨?_, ?_⟩⟩, ?_, fun p p0 p1 => ⟨?_, ?_, ?_⟩⟩
    · show W4.2 6 b = W.2 6 b
      rw [h4.2 6 b (by unfold inL; omega), h3.2.2.1 b (by omega), iu2_2, if_neg (by omega), e2 6 b (by omega)]
    · show W4.2 7 (b * 71 + p) = W.2 7 (b * 71 + p)
      rw [h4.2 7 _ (by unfold inL; omega), (h3.2.2.2.1 _ (by omega)).1, e6 7 _ (by omega), e2 7 _ (by omega)]
    · show W4.2 8 (b * 71 + p) = W.2 8 (b * 71 + p)
      rw [h4.2 8 _ (by unfold inL; omega), (h3.2.2.2.1 _ (by omega)).2, e6 8 _ (by omega), e2 8 _ (by omega)]
    · show W4.2 9 ((b * 71 + p) * 13 + i) = W.2 9 ((b * 71 + p) * 13 + i)
      rw [h4.2 9 _ (by unfold inL; omega), (h3.2.2.2.2 _ (by omega)).1, e6 9 _ (by omega), e2 9 _ (by omega)]
    · show W4.2 10 ((b * 71 + p) * 13 + i) = W.2 10 ((b * 71 + p) * 13 + i)
      rw [h4.2 10 _ (by unfold inL; omega), (h3.2.2.2.2 _ (by omega)).2, e6 10 _ (by omega), e2 10 _ (by omega)]
    · exact g 11 b (by unfold inL; omega) (by omega) (by omega)
    · exact g 12 _ (by unfold inL; omega) (by omega) (by omega)
    · exact g 13 _ (by unfold inL; omega) (by omega) (by omega)
    · exact g 14 _ (by unfold inL; omega) (by omega) (by omega)
  · exact ⟨g 16 _ (by unfold inL; omega) (by omega) (by omega), g 17 _ (by unfold inL; omega) (by omega) (by omega), fun i i0 i1 => g 18 _ (by unfold inL; omega) (by omega) (by omega)⟩
/-- a refused text leaves nothing -/
theorem Inv.no {W2 : IS} {J1 : JS} (hI : Inv W J) {r : Int} (k1 : JKp J J1) (r1 : J1.2.2 = J.2.2) (s1 : js J1 8 0 = js J 8 0 ∧ js J1 9 0 = js J 9 0) (hw : WKp W W2 (jB J) (jC J)) (h1 : W2.1 1 = 0) (h5 : W2.1 5 = W.1 5) (h15 : W2.1 15 = W.1 15) (h3 : js J1 5 0 = W2.1 3) (h4 : js J1 10 0 = W2.1 4) : Inv (iu1 W2 2 r) (ju1 (ju1 J1 2 0 0) 11 0 r) := by
  have e1 : js (ju1 (ju1 J1 2 0 0) 11 0 r) 2 0 = 0 := by rw [ju1_s, if_neg (by omega), ju1_s, if_pos ⟨rfl, rfl⟩]
  have e2 : ∀ t i, (t ≠ 2 ∧ t ≠ 11) → js (ju1 (ju1 J1 2 0 0) 11 0 r) t i = js J1 t i := fun t i c => by rw [ju1_s, if_neg (by omega), ju1_s, if_neg (by omega)]
  have k : JKp J (ju1 (ju1 J1 2 0 0) 11 0 r) := (k1.trans (JKp.u (by omega))).trans (JKp.u (by omega))
  refine hI.same ?_ ?_ ?_ ⟨by rw [e2 8 0 (by omega), s1.1], by rw [e2 9 0 (by omega), s1.2]⟩ ⟨?_, ?_, ?_⟩ ⟨jB_r (J := J) (J' := ju1 (ju1 J1 2 0 0) 11 0 r) r1, jC_r (J := J) (J' := ju1 (ju1 J1 2 0 0) 11 0 r) r1⟩ k ?_
  · have q : (iu1 W2 2 r).1 1 = 0 := by rw [iu1_1, if_neg (by omega)]; exact h1
    rw [q]
    exact TpR.z e1
  · rw [iu1_1, if_neg (by omega), h5]
  · rw [iu1_1, if_neg (by omega), h15]
  · rw [e2 5 0 (by omega), iu1_1, if_neg (by omega), h3]
  · rw [e2 10 0 (by omega), iu1_1, if_neg (by omega), h4]
  · rw [ju1_s, if_pos ⟨rfl, rfl⟩, iu1_1, if_pos rfl]
  · exact hw
end PBK
