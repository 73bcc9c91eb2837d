/-! ===== the law, walked ===== -/
def LW_970 (k18 : Option Nat → Option Nat → Option Nat → Int32 → MM Int32) (x0 : Option Nat) (x1 : Option Nat) (x2 : Option Nat) (x3 : Int32) : MM Int32 :=
  (k18 x0 x1 x2 (x3 + (6 : Int32)))
def LW_18_st  (k18 : Option Nat → Option Nat → Option Nat → Int32 → MM Int32) (x0 : Option Nat) (x1 : Option Nat) (x2 : Option Nat) (x3 : Int32) : MM Int32 :=
  mb (aN x0) fun v1 =>
  if (v1 - (6 : Int32)) < x3 then (mr (1 : Int32)) else (mb (aI x0 x3) fun v2 =>
  if (v2 &&& (31 : Int32)) = (0 : Int32) then (mb (aI x0 (x3 + (1 : Int32))) fun v3 =>
  mb (aI x0 (x3 + (2 : Int32))) fun v4 =>
  mb (aI x0 (x3 + (3 : Int32))) fun v5 =>
  mb (aI x0 (x3 + (4 : Int32))) fun v6 =>
  mb (aI x0 (x3 + (5 : Int32))) fun v7 =>
  mb (wc 12 x1 fun t => X11_feed t v3 v4 v5 v6 v7) fun v8 =>
  mb (aI x0 (x3 + (1 : Int32))) fun v9 =>
  mb (aI x0 (x3 + (2 : Int32))) fun v10 =>
  mb (aI x0 (x3 + (3 : Int32))) fun v11 =>
  mb (aI x0 (x3 + (4 : Int32))) fun v12 =>
  mb (aI x0 (x3 + (5 : Int32))) fun v13 =>
  mb (wc 13 x2 fun t => X12_feed t v9 v10 v11 v12 v13) fun v14 =>
  if v8 = v14 then ((LW_970 k18 x0 x1 x2 x3)) else (mr (0 : Int32))) else (if (v2 &&& (31 : Int32)) = (1 : Int32) then (mb (aI x0 (x3 + (1 : Int32))) fun v15 =>
  mb (wc 12 x1 fun t => X11_end t v15) fun v16 =>
  mb (aI x0 (x3 + (1 : Int32))) fun v17 =>
  mb (wc 13 x2 fun t => X12_end t v17) fun v18 =>
  if v16 = v18 then ((LW_970 k18 x0 x1 x2 x3)) else (mr (0 : Int32))) else (if (v2 &&& (31 : Int32)) = (2 : Int32) then (mb (wc 12 x1 fun t => X11_book t ) fun v19 =>
  mb (wc 13 x2 fun t => X12_book t ) fun v20 =>
  if v19 = v20 then ((LW_970 k18 x0 x1 x2 x3)) else (mr (0 : Int32))) else (if (v2 &&& (31 : Int32)) = (3 : Int32) then (mb (aI x0 (x3 + (1 : Int32))) fun v21 =>
  mb (wc 12 x1 fun t => X11_change t v21) fun v22 =>
  mb (aI x0 (x3 + (1 : Int32))) fun v23 =>
  mb (wc 13 x2 fun t => X12_change t v23) fun v24 =>
  if v22 = v24 then ((LW_970 k18 x0 x1 x2 x3)) else (mr (0 : Int32))) else (if (v2 &&& (31 : Int32)) = (4 : Int32) then (mb (aI x0 (x3 + (1 : Int32))) fun v25 =>
  mb (wc 12 x1 fun t => X11_copy t v25) fun v26 =>
  mb (aI x0 (x3 + (1 : Int32))) fun v27 =>
  mb (wc 13 x2 fun t => X12_copy t v27) fun v28 =>
  if v26 = v28 then ((LW_970 k18 x0 x1 x2 x3)) else (mr (0 : Int32))) else (if (v2 &&& (31 : Int32)) = (5 : Int32) then (mb (aI x0 (x3 + (1 : Int32))) fun v29 =>
  mb (wc 12 x1 fun t => X11_find t v29) fun v30 =>
  mb (aI x0 (x3 + (1 : Int32))) fun v31 =>
  mb (wc 13 x2 fun t => X12_find t v31) fun v32 =>
  if v30 = v32 then ((LW_970 k18 x0 x1 x2 x3)) else (mr (0 : Int32))) else (if (v2 &&& (31 : Int32)) = (6 : Int32) then (mb (wc 12 x1 fun t => X11_place t ) fun v33 =>
  mb (wc 13 x2 fun t => X12_place t ) fun v34 =>
  if v33 = v34 then ((LW_970 k18 x0 x1 x2 x3)) else (mr (0 : Int32))) else (if (v2 &&& (31 : Int32)) = (7 : Int32) then (mb (wc 12 x1 fun t => X11_fault t ) fun v35 =>
  mb (wc 13 x2 fun t => X12_fault t ) fun v36 =>
  if v35 = v36 then ((LW_970 k18 x0 x1 x2 x3)) else (mr (0 : Int32))) else (if (v2 &&& (31 : Int32)) = (8 : Int32) then (mb (aI x0 (x3 + (1 : Int32))) fun v37 =>
  mb (wc 12 x1 fun t => X11_count t v37) fun v38 =>
  mb (aI x0 (x3 + (1 : Int32))) fun v39 =>
  mb (wc 13 x2 fun t => X12_count t v39) fun v40 =>
  if v38 = v40 then ((LW_970 k18 x0 x1 x2 x3)) else (mr (0 : Int32))) else (if (v2 &&& (31 : Int32)) = (9 : Int32) then (mb (aI x0 (x3 + (1 : Int32))) fun v41 =>
  mb (wc 12 x1 fun t => X11_gatherings t v41) fun v42 =>
  mb (aI x0 (x3 + (1 : Int32))) fun v43 =>
  mb (wc 13 x2 fun t => X12_gatherings t v43) fun v44 =>
  if v42 = v44 then ((LW_970 k18 x0 x1 x2 x3)) else (mr (0 : Int32))) else (if (v2 &&& (31 : Int32)) = (10 : Int32) then (mb (aI x0 (x3 + (1 : Int32))) fun v45 =>
  mb (aI x0 (x3 + (2 : Int32))) fun v46 =>
  mb (aI x0 (x3 + (3 : Int32))) fun v47 =>
  mb (wc 12 x1 fun t => X11_gathering t v45 v46 v47) fun v48 =>
  mb (aI x0 (x3 + (1 : Int32))) fun v49 =>
  mb (aI x0 (x3 + (2 : Int32))) fun v50 =>
  mb (aI x0 (x3 + (3 : Int32))) fun v51 =>
  mb (wc 13 x2 fun t => X12_gathering t v49 v50 v51) fun v52 =>
  if v48 = v52 then ((LW_970 k18 x0 x1 x2 x3)) else (mr (0 : Int32))) else (if (v2 &&& (31 : Int32)) = (11 : Int32) then (mb (aI x0 (x3 + (1 : Int32))) fun v53 =>
  mb (wc 12 x1 fun t => X11_leaves t v53) fun v54 =>
  mb (aI x0 (x3 + (1 : Int32))) fun v55 =>
  mb (wc 13 x2 fun t => X12_leaves t v55) fun v56 =>
  if v54 = v56 then ((LW_970 k18 x0 x1 x2 x3)) else (mr (0 : Int32))) else (if (v2 &&& (31 : Int32)) = (12 : Int32) then (mb (aI x0 (x3 + (1 : Int32))) fun v57 =>
  mb (aI x0 (x3 + (2 : Int32))) fun v58 =>
  mb (aI x0 (x3 + (3 : Int32))) fun v59 =>
  mb (wc 12 x1 fun t => X11_leaf t v57 v58 v59) fun v60 =>
  mb (aI x0 (x3 + (1 : Int32))) fun v61 =>
  mb (aI x0 (x3 + (2 : Int32))) fun v62 =>
  mb (aI x0 (x3 + (3 : Int32))) fun v63 =>
  mb (wc 13 x2 fun t => X12_leaf t v61 v62 v63) fun v64 =>
  if v60 = v64 then ((LW_970 k18 x0 x1 x2 x3)) else (mr (0 : Int32))) else (if (v2 &&& (31 : Int32)) = (13 : Int32) then (mb (aI x0 (x3 + (1 : Int32))) fun v65 =>
  mb (aI x0 (x3 + (2 : Int32))) fun v66 =>
  mb (wc 12 x1 fun t => X11_letter t v65 v66) fun v67 =>
  mb (aI x0 (x3 + (1 : Int32))) fun v68 =>
  mb (aI x0 (x3 + (2 : Int32))) fun v69 =>
  mb (wc 13 x2 fun t => X12_letter t v68 v69) fun v70 =>
  if v67 = v70 then ((LW_970 k18 x0 x1 x2 x3)) else (mr (0 : Int32))) else (if (v2 &&& (31 : Int32)) = (14 : Int32) then (mb (aI x0 (x3 + (1 : Int32))) fun v71 =>
  mb (aI x0 (x3 + (2 : Int32))) fun v72 =>
  mb (aI x0 (x3 + (3 : Int32))) fun v73 =>
  mb (wc 12 x1 fun t => X11_name t v71 v72 v73) fun v74 =>
  mb (aI x0 (x3 + (1 : Int32))) fun v75 =>
  mb (aI x0 (x3 + (2 : Int32))) fun v76 =>
  mb (aI x0 (x3 + (3 : Int32))) fun v77 =>
  mb (wc 13 x2 fun t => X12_name t v75 v76 v77) fun v78 =>
  if v74 = v78 then ((LW_970 k18 x0 x1 x2 x3)) else (mr (0 : Int32))) else (if (v2 &&& (31 : Int32)) = (15 : Int32) then (mb (aI x0 (x3 + (1 : Int32))) fun v79 =>
  mb (aI x0 (x3 + (2 : Int32))) fun v80 =>
  mb (wc 12 x1 fun t => X11_same t v79 v80) fun v81 =>
  mb (aI x0 (x3 + (1 : Int32))) fun v82 =>
  mb (aI x0 (x3 + (2 : Int32))) fun v83 =>
  mb (wc 13 x2 fun t => X12_same t v82 v83) fun v84 =>
  if v81 = v84 then ((LW_970 k18 x0 x1 x2 x3)) else (mr (0 : Int32))) else (if (v2 &&& (31 : Int32)) = (16 : Int32) then (mb (aI x0 (x3 + (1 : Int32))) fun v85 =>
  mb (aI x0 (x3 + (2 : Int32))) fun v86 =>
  mb (wc 12 x1 fun t => X11_sheets t v85 v86) fun v87 =>
  mb (aI x0 (x3 + (1 : Int32))) fun v88 =>
  mb (aI x0 (x3 + (2 : Int32))) fun v89 =>
  mb (wc 13 x2 fun t => X12_sheets t v88 v89) fun v90 =>
  if v87 = v90 then ((LW_970 k18 x0 x1 x2 x3)) else (mr (0 : Int32))) else (if (v2 &&& (31 : Int32)) = (17 : Int32) then (mb (aI x0 (x3 + (1 : Int32))) fun v91 =>
  mb (aI x0 (x3 + (2 : Int32))) fun v92 =>
  mb (aI x0 (x3 + (3 : Int32))) fun v93 =>
  mb (aI x0 (x3 + (4 : Int32))) fun v94 =>
  mb (wc 12 x1 fun t => X11_sheet t v91 v92 v93 v94) fun v95 =>
  mb (aI x0 (x3 + (1 : Int32))) fun v96 =>
  mb (aI x0 (x3 + (2 : Int32))) fun v97 =>
  mb (aI x0 (x3 + (3 : Int32))) fun v98 =>
  mb (aI x0 (x3 + (4 : Int32))) fun v99 =>
  mb (wc 13 x2 fun t => X12_sheet t v96 v97 v98 v99) fun v100 =>
  if v95 = v100 then ((LW_970 k18 x0 x1 x2 x3)) else (mr (0 : Int32))) else (if (v2 &&& (31 : Int32)) = (18 : Int32) then (mb (aI x0 (x3 + (1 : Int32))) fun v101 =>
  mb (aI x0 (x3 + (2 : Int32))) fun v102 =>
  mb (aI x0 (x3 + (3 : Int32))) fun v103 =>
  mb (aI x0 (x3 + (4 : Int32))) fun v104 =>
  mb (wc 12 x1 fun t => X11_forme t v101 v102 v103 v104) fun v105 =>
  mb (aI x0 (x3 + (1 : Int32))) fun v106 =>
  mb (aI x0 (x3 + (2 : Int32))) fun v107 =>
  mb (aI x0 (x3 + (3 : Int32))) fun v108 =>
  mb (aI x0 (x3 + (4 : Int32))) fun v109 =>
  mb (wc 13 x2 fun t => X12_forme t v106 v107 v108 v109) fun v110 =>
  if v105 = v110 then ((LW_970 k18 x0 x1 x2 x3)) else (mr (0 : Int32))) else (if (v2 &&& (31 : Int32)) = (19 : Int32) then (mb (aI x0 (x3 + (1 : Int32))) fun v111 =>
  mb (aI x0 (x3 + (2 : Int32))) fun v112 =>
  mb (wc 12 x1 fun t => X11_state t v111 v112) fun v113 =>
  mb (aI x0 (x3 + (1 : Int32))) fun v114 =>
  mb (aI x0 (x3 + (2 : Int32))) fun v115 =>
  mb (wc 13 x2 fun t => X12_state t v114 v115) fun v116 =>
  if v113 = v116 then ((LW_970 k18 x0 x1 x2 x3)) else (mr (0 : Int32))) else (if (v2 &&& (31 : Int32)) = (20 : Int32) then (mb (aI x0 (x3 + (1 : Int32))) fun v117 =>
  mb (aI x0 (x3 + (2 : Int32))) fun v118 =>
  mb (wc 12 x1 fun t => X11_entry t v117 v118) fun v119 =>
  mb (aI x0 (x3 + (1 : Int32))) fun v120 =>
  mb (aI x0 (x3 + (2 : Int32))) fun v121 =>
  mb (wc 13 x2 fun t => X12_entry t v120 v121) fun v122 =>
  if v119 = v122 then ((LW_970 k18 x0 x1 x2 x3)) else (mr (0 : Int32))) else (if (v2 &&& (31 : Int32)) = (21 : Int32) then (mb (aI x0 (x3 + (1 : Int32))) fun v123 =>
  mb (aI x0 (x3 + (2 : Int32))) fun v124 =>
  mb (aI x0 (x3 + (3 : Int32))) fun v125 =>
  mb (wc 12 x1 fun t => X11_told t v123 v124 v125) fun v126 =>
  mb (aI x0 (x3 + (1 : Int32))) fun v127 =>
  mb (aI x0 (x3 + (2 : Int32))) fun v128 =>
  mb (aI x0 (x3 + (3 : Int32))) fun v129 =>
  mb (wc 13 x2 fun t => X12_told t v127 v128 v129) fun v130 =>
  if v126 = v130 then ((LW_970 k18 x0 x1 x2 x3)) else (mr (0 : Int32))) else (if (v2 &&& (31 : Int32)) = (22 : Int32) then (mb (aI x0 (x3 + (1 : Int32))) fun v131 =>
  mb (aI x0 (x3 + (2 : Int32))) fun v132 =>
  mb (wc 12 x1 fun t => X11_note t v131 v132) fun v133 =>
  mb (aI x0 (x3 + (1 : Int32))) fun v134 =>
  mb (aI x0 (x3 + (2 : Int32))) fun v135 =>
  mb (wc 13 x2 fun t => X12_note t v134 v135) fun v136 =>
  if v133 = v136 then ((LW_970 k18 x0 x1 x2 x3)) else (mr (0 : Int32))) else (if (v2 &&& (31 : Int32)) = (23 : Int32) then (mb (aI x0 (x3 + (1 : Int32))) fun v137 =>
  mb (aI x0 (x3 + (2 : Int32))) fun v138 =>
  mb (wc 12 x1 fun t => X11_apart t v137 v138) fun v139 =>
  mb (aI x0 (x3 + (1 : Int32))) fun v140 =>
  mb (aI x0 (x3 + (2 : Int32))) fun v141 =>
  mb (wc 13 x2 fun t => X12_apart t v140 v141) fun v142 =>
  if v139 = v142 then ((LW_970 k18 x0 x1 x2 x3)) else (mr (0 : Int32))) else (if (v2 &&& (31 : Int32)) = (24 : Int32) then (mb (aI x0 (x3 + (1 : Int32))) fun v143 =>
  mb (aI x0 (x3 + (2 : Int32))) fun v144 =>
  mb (wc 12 x1 fun t => X11_together t v143 v144) fun v145 =>
  mb (aI x0 (x3 + (1 : Int32))) fun v146 =>
  mb (aI x0 (x3 + (2 : Int32))) fun v147 =>
  mb (wc 13 x2 fun t => X12_together t v146 v147) fun v148 =>
  if v145 = v148 then ((LW_970 k18 x0 x1 x2 x3)) else (mr (0 : Int32))) else (if (v2 &&& (31 : Int32)) = (25 : Int32) then (mb (wc 12 x1 fun t => X11_status t ) fun v149 =>
  mb (wc 13 x2 fun t => X12_status t ) fun v150 =>
  if v149 = v150 then ((LW_970 k18 x0 x1 x2 x3)) else (mr (0 : Int32))) else ((LW_970 k18 x0 x1 x2 x3))))))))))))))))))))))))))))
def LW_18  : Nat → Option Nat → Option Nat → Option Nat → Int32 → MM Int32
  | 0 => fun _ _ _ _ => mf
  | n + 1 => fun x0 x1 x2 x3 => LW_18_st  (LW_18  n) x0 x1 x2 x3
def LW (a0 : Option Nat) : MM Int32 :=
  mb (nO 12 12 [.null, .null, .null, .null, .null, .null, .null, .null, .int 0, .int 0, .int 0, .int 0]) fun v1 =>
  mb (wn v1 fun t => X11_init t ) fun _ =>
  mb (nO 13 49 [.null, .int 0, .int 0, .int 0, .int 0, .int 0, .null, .null, .null, .null, .null, .null, .null, .null, .null, .int 0, .null, .null, .null, .int 0, .int 0, .int 0, .int 0, .int 0, .int 0, .int 0, .null, .null, .null, .null, .null, .null, .null, .null, .null, .null, .null, .int 0, .null, .null, .null, .null, .int 0, .int 0, .int 0, .null, .null, .null, .null]) fun v2 =>
  mb (wn v2 fun t => X12_init t ) fun _ =>
  (LW_18 LFU a0 v1 v2 (0 : Int32))
set_option maxRecDepth 100000 in
set_option maxHeartbeats 4000000 in
theorem s_LW_970 (G : GG) (k18 : Option Nat → Option Nat → Option Nat → Int32 → MM Int32) (hk18 : ∀ (x0 : Option Nat) (x1 : Option Nat) (x2 : Option Nat) (x3 : Int32), Sn G yLW cLW 4 (some FieldType.boolean) 18 734 (fun v : Int32 => some (.int v)) (k18 x0 x1 x2 x3) 18 [some (va_rf x0), some (va_rf x1), some (va_rf x2), some (.int x3)] []) (x0 : Option Nat) (x1 : Option Nat) (x2 : Option Nat) (x3 : Int32) : Sn G yLW cLW 4 (some FieldType.boolean) 18 734 (fun v : Int32 => some (.int v)) (LW_970 k18 x0 x1 x2 x3) 970 [some (va_rf x0), some (va_rf x1), some (va_rf x2), some (.int x3)] [] := by
  unfold LW_970
  refine sn_iinc (v := x3) (w := 6) (L' := [some (va_rf x0), some (va_rf x1), some (va_rf x2), some (.int (x3 + (6 : Int32)))]) (pc' := 973) dLW_970 rfl rfl rfl (by decide) rfl ?_
  refine sn_goto (pc' := 18) dLW_973 rfl ?_
  exact sn_weak (le_s (le_s (le_s (le_s le_e)))) (hk18 x0 x1 x2 (x3 + (6 : Int32)))
set_option maxRecDepth 100000 in
set_option maxHeartbeats 4000000 in
theorem s_LW_18_st (G : GG)   (k18 : Option Nat → Option Nat → Option Nat → Int32 → MM Int32) (hk18 : ∀ (x0 : Option Nat) (x1 : Option Nat) (x2 : Option Nat) (x3 : Int32), Sn G yLW cLW 4 (some FieldType.boolean) 18 734 (fun v : Int32 => some (.int v)) (k18 x0 x1 x2 x3) 18 [some (va_rf x0), some (va_rf x1), some (va_rf x2), some (.int x3)] []) (x0 : Option Nat) (x1 : Option Nat) (x2 : Option Nat) (x3 : Int32) : Sn G yLW cLW 4 (some FieldType.boolean) 18 734 (fun v : Int32 => some (.int v)) (LW_18_st  k18 x0 x1 x2 x3) 18 [some (va_rf x0), some (va_rf x1), some (va_rf x2), some (.int x3)] [] := by
  unfold LW_18_st
  refine sn_iload_n (v := x3) (pc' := 19) dLW_18 rfl rfl rfl ?_
  refine sn_aload_n (v := x0) (pc' := 20) dLW_19 rfl rfl rfl ?_
  refine sn_aN (pc' := 21) dLW_20 rfl (fun v1 => ?_)
  refine sn_bipush (v := (6 : Int32)) (pc' := 23) dLW_21 rfl (by decide) ?_
  refine sn_isub (pc' := 24) dLW_23 rfl ?_
  refine sn_ic_gt (pt := 976) (pf := 27) dLW_24 rfl rfl ?_ ?_
  · refine sn_iconst (v := (1 : Int32)) (pc' := 977) dLW_976 rfl (by decide) ?_
    exact sn_iret dLW_977 rfl (by decide)
  · refine sn_aload_n (v := x0) (pc' := 28) dLW_27 rfl rfl rfl ?_
    refine sn_iload_n (v := x3) (pc' := 29) dLW_28 rfl rfl rfl ?_
    refine sn_aI (pc' := 30) dLW_29 rfl (fun v2 => ?_)
    refine sn_bipush (v := (31 : Int32)) (pc' := 32) dLW_30 rfl (by decide) ?_
    refine sn_iand (pc' := 33) dLW_32 rfl ?_
    refine sn_or (d := (v2 &&& (31 : Int32)) = (0 : Int32)) (fun hc => ?_) (fun hc0 => ?_)
    · refine sn_tsI (pt := 152) (off := 119) dLW_33 (by rw [hc]; decide) (by rw [hc]; decide) (by rw [hc]; rfl) rfl ?_
      refine sn_aload_n (v := x1) (pc' := 153) dLW_152 rfl rfl rfl ?_
      refine sn_aload_n (v := x0) (pc' := 154) dLW_153 rfl rfl rfl ?_
      refine sn_iload_n (v := x3) (pc' := 155) dLW_154 rfl rfl rfl ?_
      refine sn_iconst (v := (1 : Int32)) (pc' := 156) dLW_155 rfl (by decide) ?_
      refine sn_iadd (pc' := 157) dLW_156 rfl ?_
      refine sn_aI (pc' := 158) dLW_157 rfl (fun v3 => ?_)
      refine sn_aload_n (v := x0) (pc' := 159) dLW_158 rfl rfl rfl ?_
      refine sn_iload_n (v := x3) (pc' := 160) dLW_159 rfl rfl rfl ?_
      refine sn_iconst (v := (2 : Int32)) (pc' := 161) dLW_160 rfl (by decide) ?_
      refine sn_iadd (pc' := 162) dLW_161 rfl ?_
      refine sn_aI (pc' := 163) dLW_162 rfl (fun v4 => ?_)
      refine sn_aload_n (v := x0) (pc' := 164) dLW_163 rfl rfl rfl ?_
      refine sn_iload_n (v := x3) (pc' := 165) dLW_164 rfl rfl rfl ?_
      refine sn_iconst (v := (3 : Int32)) (pc' := 166) dLW_165 rfl (by decide) ?_
      refine sn_iadd (pc' := 167) dLW_166 rfl ?_
      refine sn_aI (pc' := 168) dLW_167 rfl (fun v5 => ?_)
      refine sn_aload_n (v := x0) (pc' := 169) dLW_168 rfl rfl rfl ?_
      refine sn_iload_n (v := x3) (pc' := 170) dLW_169 rfl rfl rfl ?_
      refine sn_iconst (v := (4 : Int32)) (pc' := 171) dLW_170 rfl (by decide) ?_
      refine sn_iadd (pc' := 172) dLW_171 rfl ?_
      refine sn_aI (pc' := 173) dLW_172 rfl (fun v6 => ?_)
      refine sn_aload_n (v := x0) (pc' := 174) dLW_173 rfl rfl rfl ?_
      refine sn_iload_n (v := x3) (pc' := 175) dLW_174 rfl rfl rfl ?_
      refine sn_iconst (v := (5 : Int32)) (pc' := 176) dLW_175 rfl (by decide) ?_
      refine sn_iadd (pc' := 177) dLW_176 rfl ?_
      refine sn_aI (pc' := 178) dLW_177 rfl (fun v7 => ?_)
      refine sn_cV (r := x1) (st := []) (As := [.int v3, .int v4, .int v5, .int v6, .int v7]) (st2 := (fun v => .int v :: [])) (pc' := 181) ci_12 (fun t => c_X11_feed G t v3 v4 v5 v6 v7) cw_X11_feed rfl rfl tw310 tw312 tw311 rfl rfl cat_nil rfl (fun _ => rfl) dLW_178 rfl (fun v8 => ?_)
      refine sn_aload_n (v := x2) (pc' := 182) dLW_181 rfl rfl rfl ?_
      refine sn_aload_n (v := x0) (pc' := 183) dLW_182 rfl rfl rfl ?_
      refine sn_iload_n (v := x3) (pc' := 184) dLW_183 rfl rfl rfl ?_
      refine sn_iconst (v := (1 : Int32)) (pc' := 185) dLW_184 rfl (by decide) ?_
      refine sn_iadd (pc' := 186) dLW_185 rfl ?_
      refine sn_aI (pc' := 187) dLW_186 rfl (fun v9 => ?_)
      refine sn_aload_n (v := x0) (pc' := 188) dLW_187 rfl rfl rfl ?_
      refine sn_iload_n (v := x3) (pc' := 189) dLW_188 rfl rfl rfl ?_
      refine sn_iconst (v := (2 : Int32)) (pc' := 190) dLW_189 rfl (by decide) ?_
      refine sn_iadd (pc' := 191) dLW_190 rfl ?_
      refine sn_aI (pc' := 192) dLW_191 rfl (fun v10 => ?_)
      refine sn_aload_n (v := x0) (pc' := 193) dLW_192 rfl rfl rfl ?_
      refine sn_iload_n (v := x3) (pc' := 194) dLW_193 rfl rfl rfl ?_
      refine sn_iconst (v := (3 : Int32)) (pc' := 195) dLW_194 rfl (by decide) ?_
      refine sn_iadd (pc' := 196) dLW_195 rfl ?_
      refine sn_aI (pc' := 197) dLW_196 rfl (fun v11 => ?_)
      refine sn_aload_n (v := x0) (pc' := 198) dLW_197 rfl rfl rfl ?_
      refine sn_iload_n (v := x3) (pc' := 199) dLW_198 rfl rfl rfl ?_
      refine sn_iconst (v := (4 : Int32)) (pc' := 200) dLW_199 rfl (by decide) ?_
      refine sn_iadd (pc' := 201) dLW_200 rfl ?_
      refine sn_aI (pc' := 202) dLW_201 rfl (fun v12 => ?_)
      refine sn_aload_n (v := x0) (pc' := 203) dLW_202 rfl rfl rfl ?_
      refine sn_iload_n (v := x3) (pc' := 204) dLW_203 rfl rfl rfl ?_
      refine sn_iconst (v := (5 : Int32)) (pc' := 205) dLW_204 rfl (by decide) ?_
      refine sn_iadd (pc' := 206) dLW_205 rfl ?_
      refine sn_aI (pc' := 207) dLW_206 rfl (fun v13 => ?_)
      refine sn_cV (r := x2) (st := [.int v8]) (As := [.int v9, .int v10, .int v11, .int v12, .int v13]) (st2 := (fun v => .int v :: [.int v8])) (pc' := 210) ci_13 (fun t => c_X12_feed G t v9 v10 v11 v12 v13) cw_X12_feed rfl rfl tw1427 tw1429 tw1428 rfl rfl (cat_i cat_nil) rfl (fun _ => rfl) dLW_207 rfl (fun v14 => ?_)
      refine sn_ic_eq (pt := 970) (pf := 213) dLW_210 rfl rfl ?_ ?_
      · exact sn_weak (le_s (le_s (le_s (le_s le_e)))) (s_LW_970 G k18 hk18 x0 x1 x2 x3)
      · refine sn_iconst (v := (0 : Int32)) (pc' := 214) dLW_213 rfl (by decide) ?_
        exact sn_iret dLW_214 rfl (by decide)
    refine sn_or (d := (v2 &&& (31 : Int32)) = (1 : Int32)) (fun hc => ?_) (fun hc1 => ?_)
    · refine sn_tsI (pt := 215) (off := 182) dLW_33 (by rw [hc]; decide) (by rw [hc]; decide) (by rw [hc]; rfl) rfl ?_
      refine sn_aload_n (v := x1) (pc' := 216) dLW_215 rfl rfl rfl ?_
      refine sn_aload_n (v := x0) (pc' := 217) dLW_216 rfl rfl rfl ?_
      refine sn_iload_n (v := x3) (pc' := 218) dLW_217 rfl rfl rfl ?_
      refine sn_iconst (v := (1 : Int32)) (pc' := 219) dLW_218 rfl (by decide) ?_
      refine sn_iadd (pc' := 220) dLW_219 rfl ?_
      refine sn_aI (pc' := 221) dLW_220 rfl (fun v15 => ?_)
      refine sn_cV (r := x1) (st := []) (As := [.int v15]) (st2 := (fun v => .int v :: [])) (pc' := 224) ci_12 (fun t => c_X11_end G t v15) cw_X11_end rfl rfl tw330 tw332 tw331 rfl rfl cat_nil rfl (fun _ => rfl) dLW_221 rfl (fun v16 => ?_)
      refine sn_aload_n (v := x2) (pc' := 225) dLW_224 rfl rfl rfl ?_
      refine sn_aload_n (v := x0) (pc' := 226) dLW_225 rfl rfl rfl ?_
      refine sn_iload_n (v := x3) (pc' := 227) dLW_226 rfl rfl rfl ?_
      refine sn_iconst (v := (1 : Int32)) (pc' := 228) dLW_227 rfl (by decide) ?_
      refine sn_iadd (pc' := 229) dLW_228 rfl ?_
      refine sn_aI (pc' := 230) dLW_229 rfl (fun v17 => ?_)
      refine sn_cV (r := x2) (st := [.int v16]) (As := [.int v17]) (st2 := (fun v => .int v :: [.int v16])) (pc' := 233) ci_13 (fun t => c_X12_end G t v17) cw_X12_end rfl rfl tw1439 tw1441 tw1440 rfl rfl (cat_i cat_nil) rfl (fun _ => rfl) dLW_230 rfl (fun v18 => ?_)
      refine sn_ic_eq (pt := 970) (pf := 236) dLW_233 rfl rfl ?_ ?_
      · exact sn_weak (le_s (le_s (le_s (le_s le_e)))) (s_LW_970 G k18 hk18 x0 x1 x2 x3)
      · refine sn_iconst (v := (0 : Int32)) (pc' := 237) dLW_236 rfl (by decide) ?_
        exact sn_iret dLW_237 rfl (by decide)
    refine sn_or (d := (v2 &&& (31 : Int32)) = (2 : Int32)) (fun hc => ?_) (fun hc2 => ?_)
    · refine sn_tsI (pt := 238) (off := 205) dLW_33 (by rw [hc]; decide) (by rw [hc]; decide) (by rw [hc]; rfl) rfl ?_
      refine sn_aload_n (v := x1) (pc' := 239) dLW_238 rfl rfl rfl ?_
      refine sn_cV (r := x1) (st := []) (As := []) (st2 := (fun v => .int v :: [])) (pc' := 242) ci_12 (fun t => c_X11_book G t ) cw_X11_book rfl rfl tw338 tw340 tw339 rfl rfl cat_nil rfl (fun _ => rfl) dLW_239 rfl (fun v19 => ?_)
      refine sn_aload_n (v := x2) (pc' := 243) dLW_242 rfl rfl rfl ?_
      refine sn_cV (r := x2) (st := [.int v19]) (As := []) (st2 := (fun v => .int v :: [.int v19])) (pc' := 246) ci_13 (fun t => c_X12_book G t ) cw_X12_book rfl rfl tw1446 tw1448 tw1447 rfl rfl (cat_i cat_nil) rfl (fun _ => rfl) dLW_243 rfl (fun v20 => ?_)
      refine sn_ic_eq (pt := 970) (pf := 249) dLW_246 rfl rfl ?_ ?_
      · exact sn_weak (le_s (le_s (le_s (le_s le_e)))) (s_LW_970 G k18 hk18 x0 x1 x2 x3)
      · refine sn_iconst (v := (0 : Int32)) (pc' := 250) dLW_249 rfl (by decide) ?_
        exact sn_iret dLW_250 rfl (by decide)
    refine sn_or (d := (v2 &&& (31 : Int32)) = (3 : Int32)) (fun hc => ?_) (fun hc3 => ?_)
    · refine sn_tsI (pt := 251) (off := 218) dLW_33 (by rw [hc]; decide) (by rw [hc]; decide) (by rw [hc]; rfl) rfl ?_
      refine sn_aload_n (v := x1) (pc' := 252) dLW_251 rfl rfl rfl ?_
      refine sn_aload_n (v := x0) (pc' := 253) dLW_252 rfl rfl rfl ?_
      refine sn_iload_n (v := x3) (pc' := 254) dLW_253 rfl rfl rfl ?_
      refine sn_iconst (v := (1 : Int32)) (pc' := 255) dLW_254 rfl (by decide) ?_
      refine sn_iadd (pc' := 256) dLW_255 rfl ?_
      refine sn_aI (pc' := 257) dLW_256 rfl (fun v21 => ?_)
      refine sn_cV (r := x1) (st := []) (As := [.int v21]) (st2 := (fun v => .int v :: [])) (pc' := 260) ci_12 (fun t => c_X11_change G t v21) cw_X11_change rfl rfl tw906 tw908 tw907 rfl rfl cat_nil rfl (fun _ => rfl) dLW_257 rfl (fun v22 => ?_)
      refine sn_aload_n (v := x2) (pc' := 261) dLW_260 rfl rfl rfl ?_
      refine sn_aload_n (v := x0) (pc' := 262) dLW_261 rfl rfl rfl ?_
      refine sn_iload_n (v := x3) (pc' := 263) dLW_262 rfl rfl rfl ?_
      refine sn_iconst (v := (1 : Int32)) (pc' := 264) dLW_263 rfl (by decide) ?_
      refine sn_iadd (pc' := 265) dLW_264 rfl ?_
      refine sn_aI (pc' := 266) dLW_265 rfl (fun v23 => ?_)
      refine sn_cV (r := x2) (st := [.int v22]) (As := [.int v23]) (st2 := (fun v => .int v :: [.int v22])) (pc' := 269) ci_13 (fun t => c_X12_change G t v23) cw_X12_change rfl rfl tw1550 tw1552 tw1551 rfl rfl (cat_i cat_nil) rfl (fun _ => rfl) dLW_266 rfl (fun v24 => ?_)
      refine sn_ic_eq (pt := 970) (pf := 272) dLW_269 rfl rfl ?_ ?_
      · exact sn_weak (le_s (le_s (le_s (le_s le_e)))) (s_LW_970 G k18 hk18 x0 x1 x2 x3)
      · refine sn_iconst (v := (0 : Int32)) (pc' := 273) dLW_272 rfl (by decide) ?_
        exact sn_iret dLW_273 rfl (by decide)
    refine sn_or (d := (v2 &&& (31 : Int32)) = (4 : Int32)) (fun hc => ?_) (fun hc4 => ?_)
    · refine sn_tsI (pt := 274) (off := 241) dLW_33 (by rw [hc]; decide) (by rw [hc]; decide) (by rw [hc]; rfl) rfl ?_
      refine sn_aload_n (v := x1) (pc' := 275) dLW_274 rfl rfl rfl ?_
      refine sn_aload_n (v := x0) (pc' := 276) dLW_275 rfl rfl rfl ?_
      refine sn_iload_n (v := x3) (pc' := 277) dLW_276 rfl rfl rfl ?_
      refine sn_iconst (v := (1 : Int32)) (pc' := 278) dLW_277 rfl (by decide) ?_
      refine sn_iadd (pc' := 279) dLW_278 rfl ?_
      refine sn_aI (pc' := 280) dLW_279 rfl (fun v25 => ?_)
      refine sn_cV (r := x1) (st := []) (As := [.int v25]) (st2 := (fun v => .int v :: [])) (pc' := 283) ci_12 (fun t => c_X11_copy G t v25) cw_X11_copy rfl rfl tw925 tw927 tw926 rfl rfl cat_nil rfl (fun _ => rfl) dLW_280 rfl (fun v26 => ?_)
      refine sn_aload_n (v := x2) (pc' := 284) dLW_283 rfl rfl rfl ?_
      refine sn_aload_n (v := x0) (pc' := 285) dLW_284 rfl rfl rfl ?_
      refine sn_iload_n (v := x3) (pc' := 286) dLW_285 rfl rfl rfl ?_
      refine sn_iconst (v := (1 : Int32)) (pc' := 287) dLW_286 rfl (by decide) ?_
      refine sn_iadd (pc' := 288) dLW_287 rfl ?_
      refine sn_aI (pc' := 289) dLW_288 rfl (fun v27 => ?_)
      refine sn_cV (r := x2) (st := [.int v26]) (As := [.int v27]) (st2 := (fun v => .int v :: [.int v26])) (pc' := 292) ci_13 (fun t => c_X12_copy G t v27) cw_X12_copy rfl rfl tw1562 tw1564 tw1563 rfl rfl (cat_i cat_nil) rfl (fun _ => rfl) dLW_289 rfl (fun v28 => ?_)
      refine sn_ic_eq (pt := 970) (pf := 295) dLW_292 rfl rfl ?_ ?_
      · exact sn_weak (le_s (le_s (le_s (le_s le_e)))) (s_LW_970 G k18 hk18 x0 x1 x2 x3)
      · refine sn_iconst (v := (0 : Int32)) (pc' := 296) dLW_295 rfl (by decide) ?_
        exact sn_iret dLW_296 rfl (by decide)
    refine sn_or (d := (v2 &&& (31 : Int32)) = (5 : Int32)) (fun hc => ?_) (fun hc5 => ?_)
    · refine sn_tsI (pt := 297) (off := 264) dLW_33 (by rw [hc]; decide) (by rw [hc]; decide) (by rw [hc]; rfl) rfl ?_
      refine sn_aload_n (v := x1) (pc' := 298) dLW_297 rfl rfl rfl ?_
      refine sn_aload_n (v := x0) (pc' := 299) dLW_298 rfl rfl rfl ?_
      refine sn_iload_n (v := x3) (pc' := 300) dLW_299 rfl rfl rfl ?_
      refine sn_iconst (v := (1 : Int32)) (pc' := 301) dLW_300 rfl (by decide) ?_
      refine sn_iadd (pc' := 302) dLW_301 rfl ?_
      refine sn_aI (pc' := 303) dLW_302 rfl (fun v29 => ?_)
      refine sn_cV (r := x1) (st := []) (As := [.int v29]) (st2 := (fun v => .int v :: [])) (pc' := 306) ci_12 (fun t => c_X11_find G t v29) cw_X11_find rfl rfl tw1092 tw1094 tw1093 rfl rfl cat_nil rfl (fun _ => rfl) dLW_303 rfl (fun v30 => ?_)
      refine sn_aload_n (v := x2) (pc' := 307) dLW_306 rfl rfl rfl ?_
      refine sn_aload_n (v := x0) (pc' := 308) dLW_307 rfl rfl rfl ?_
      refine sn_iload_n (v := x3) (pc' := 309) dLW_308 rfl rfl rfl ?_
      refine sn_iconst (v := (1 : Int32)) (pc' := 310) dLW_309 rfl (by decide) ?_
      refine sn_iadd (pc' := 311) dLW_310 rfl ?_
      refine sn_aI (pc' := 312) dLW_311 rfl (fun v31 => ?_)
      refine sn_cV (r := x2) (st := [.int v30]) (As := [.int v31]) (st2 := (fun v => .int v :: [.int v30])) (pc' := 315) ci_13 (fun t => c_X12_find G t v31) cw_X12_find rfl rfl tw1578 tw1580 tw1579 rfl rfl (cat_i cat_nil) rfl (fun _ => rfl) dLW_312 rfl (fun v32 => ?_)
      refine sn_ic_eq (pt := 970) (pf := 318) dLW_315 rfl rfl ?_ ?_
      · exact sn_weak (le_s (le_s (le_s (le_s le_e)))) (s_LW_970 G k18 hk18 x0 x1 x2 x3)
      · refine sn_iconst (v := (0 : Int32)) (pc' := 319) dLW_318 rfl (by decide) ?_
        exact sn_iret dLW_319 rfl (by decide)
    refine sn_or (d := (v2 &&& (31 : Int32)) = (6 : Int32)) (fun hc => ?_) (fun hc6 => ?_)
    · refine sn_tsI (pt := 320) (off := 287) dLW_33 (by rw [hc]; decide) (by rw [hc]; decide) (by rw [hc]; rfl) rfl ?_
      refine sn_aload_n (v := x1) (pc' := 321) dLW_320 rfl rfl rfl ?_
      refine sn_cV (r := x1) (st := []) (As := []) (st2 := (fun v => .int v :: [])) (pc' := 324) ci_12 (fun t => c_X11_place G t ) cw_X11_place rfl rfl tw1101 tw1103 tw1102 rfl rfl cat_nil rfl (fun _ => rfl) dLW_321 rfl (fun v33 => ?_)
      refine sn_aload_n (v := x2) (pc' := 325) dLW_324 rfl rfl rfl ?_
      refine sn_cV (r := x2) (st := [.int v33]) (As := []) (st2 := (fun v => .int v :: [.int v33])) (pc' := 328) ci_13 (fun t => c_X12_place G t ) cw_X12_place rfl rfl tw1582 tw1584 tw1583 rfl rfl (cat_i cat_nil) rfl (fun _ => rfl) dLW_325 rfl (fun v34 => ?_)
      refine sn_ic_eq (pt := 970) (pf := 331) dLW_328 rfl rfl ?_ ?_
      · exact sn_weak (le_s (le_s (le_s (le_s le_e)))) (s_LW_970 G k18 hk18 x0 x1 x2 x3)
      · refine sn_iconst (v := (0 : Int32)) (pc' := 332) dLW_331 rfl (by decide) ?_
        exact sn_iret dLW_332 rfl (by decide)
    refine sn_or (d := (v2 &&& (31 : Int32)) = (7 : Int32)) (fun hc => ?_) (fun hc7 => ?_)
    · refine sn_tsI (pt := 333) (off := 300) dLW_33 (by rw [hc]; decide) (by rw [hc]; decide) (by rw [hc]; rfl) rfl ?_
      refine sn_aload_n (v := x1) (pc' := 334) dLW_333 rfl rfl rfl ?_
      refine sn_cV (r := x1) (st := []) (As := []) (st2 := (fun v => .int v :: [])) (pc' := 337) ci_12 (fun t => c_X11_fault G t ) cw_X11_fault rfl rfl tw1105 tw1107 tw1106 rfl rfl cat_nil rfl (fun _ => rfl) dLW_334 rfl (fun v35 => ?_)
      refine sn_aload_n (v := x2) (pc' := 338) dLW_337 rfl rfl rfl ?_
      refine sn_cV (r := x2) (st := [.int v35]) (As := []) (st2 := (fun v => .int v :: [.int v35])) (pc' := 341) ci_13 (fun t => c_X12_fault G t ) cw_X12_fault rfl rfl tw1586 tw1588 tw1587 rfl rfl (cat_i cat_nil) rfl (fun _ => rfl) dLW_338 rfl (fun v36 => ?_)
      refine sn_ic_eq (pt := 970) (pf := 344) dLW_341 rfl rfl ?_ ?_
      · exact sn_weak (le_s (le_s (le_s (le_s le_e)))) (s_LW_970 G k18 hk18 x0 x1 x2 x3)
      · refine sn_iconst (v := (0 : Int32)) (pc' := 345) dLW_344 rfl (by decide) ?_
        exact sn_iret dLW_345 rfl (by decide)
    refine sn_or (d := (v2 &&& (31 : Int32)) = (8 : Int32)) (fun hc => ?_) (fun hc8 => ?_)
    · refine sn_tsI (pt := 346) (off := 313) dLW_33 (by rw [hc]; decide) (by rw [hc]; decide) (by rw [hc]; rfl) rfl ?_
      refine sn_aload_n (v := x1) (pc' := 347) dLW_346 rfl rfl rfl ?_
      refine sn_aload_n (v := x0) (pc' := 348) dLW_347 rfl rfl rfl ?_
      refine sn_iload_n (v := x3) (pc' := 349) dLW_348 rfl rfl rfl ?_
      refine sn_iconst (v := (1 : Int32)) (pc' := 350) dLW_349 rfl (by decide) ?_
      refine sn_iadd (pc' := 351) dLW_350 rfl ?_
      refine sn_aI (pc' := 352) dLW_351 rfl (fun v37 => ?_)
      refine sn_cV (r := x1) (st := []) (As := [.int v37]) (st2 := (fun v => .int v :: [])) (pc' := 355) ci_12 (fun t => c_X11_count G t v37) cw_X11_count rfl rfl tw1109 tw1111 tw1110 rfl rfl cat_nil rfl (fun _ => rfl) dLW_352 rfl (fun v38 => ?_)
      refine sn_aload_n (v := x2) (pc' := 356) dLW_355 rfl rfl rfl ?_
      refine sn_aload_n (v := x0) (pc' := 357) dLW_356 rfl rfl rfl ?_
      refine sn_iload_n (v := x3) (pc' := 358) dLW_357 rfl rfl rfl ?_
      refine sn_iconst (v := (1 : Int32)) (pc' := 359) dLW_358 rfl (by decide) ?_
      refine sn_iadd (pc' := 360) dLW_359 rfl ?_
      refine sn_aI (pc' := 361) dLW_360 rfl (fun v39 => ?_)
      refine sn_cV (r := x2) (st := [.int v38]) (As := [.int v39]) (st2 := (fun v => .int v :: [.int v38])) (pc' := 364) ci_13 (fun t => c_X12_count G t v39) cw_X12_count rfl rfl tw1590 tw1592 tw1591 rfl rfl (cat_i cat_nil) rfl (fun _ => rfl) dLW_361 rfl (fun v40 => ?_)
      refine sn_ic_eq (pt := 970) (pf := 367) dLW_364 rfl rfl ?_ ?_
      · exact sn_weak (le_s (le_s (le_s (le_s le_e)))) (s_LW_970 G k18 hk18 x0 x1 x2 x3)
      · refine sn_iconst (v := (0 : Int32)) (pc' := 368) dLW_367 rfl (by decide) ?_
        exact sn_iret dLW_368 rfl (by decide)
    refine sn_or (d := (v2 &&& (31 : Int32)) = (9 : Int32)) (fun hc => ?_) (fun hc9 => ?_)
    · refine sn_tsI (pt := 369) (off := 336) dLW_33 (by rw [hc]; decide) (by rw [hc]; decide) (by rw [hc]; rfl) rfl ?_
      refine sn_aload_n (v := x1) (pc' := 370) dLW_369 rfl rfl rfl ?_
      refine sn_aload_n (v := x0) (pc' := 371) dLW_370 rfl rfl rfl ?_
      refine sn_iload_n (v := x3) (pc' := 372) dLW_371 rfl rfl rfl ?_
      refine sn_iconst (v := (1 : Int32)) (pc' := 373) dLW_372 rfl (by decide) ?_
      refine sn_iadd (pc' := 374) dLW_373 rfl ?_
      refine sn_aI (pc' := 375) dLW_374 rfl (fun v41 => ?_)
      refine sn_cV (r := x1) (st := []) (As := [.int v41]) (st2 := (fun v => .int v :: [])) (pc' := 378) ci_12 (fun t => c_X11_gatherings G t v41) cw_X11_gatherings rfl rfl tw1113 tw1115 tw1114 rfl rfl cat_nil rfl (fun _ => rfl) dLW_375 rfl (fun v42 => ?_)
      refine sn_aload_n (v := x2) (pc' := 379) dLW_378 rfl rfl rfl ?_
      refine sn_aload_n (v := x0) (pc' := 380) dLW_379 rfl rfl rfl ?_
      refine sn_iload_n (v := x3) (pc' := 381) dLW_380 rfl rfl rfl ?_
      refine sn_iconst (v := (1 : Int32)) (pc' := 382) dLW_381 rfl (by decide) ?_
      refine sn_iadd (pc' := 383) dLW_382 rfl ?_
      refine sn_aI (pc' := 384) dLW_383 rfl (fun v43 => ?_)
      refine sn_cV (r := x2) (st := [.int v42]) (As := [.int v43]) (st2 := (fun v => .int v :: [.int v42])) (pc' := 387) ci_13 (fun t => c_X12_gatherings G t v43) cw_X12_gatherings rfl rfl tw1594 tw1596 tw1595 rfl rfl (cat_i cat_nil) rfl (fun _ => rfl) dLW_384 rfl (fun v44 => ?_)
      refine sn_ic_eq (pt := 970) (pf := 390) dLW_387 rfl rfl ?_ ?_
      · exact sn_weak (le_s (le_s (le_s (le_s le_e)))) (s_LW_970 G k18 hk18 x0 x1 x2 x3)
      · refine sn_iconst (v := (0 : Int32)) (pc' := 391) dLW_390 rfl (by decide) ?_
        exact sn_iret dLW_391 rfl (by decide)
    refine sn_or (d := (v2 &&& (31 : Int32)) = (10 : Int32)) (fun hc => ?_) (fun hc10 => ?_)
    · refine sn_tsI (pt := 392) (off := 359) dLW_33 (by rw [hc]; decide) (by rw [hc]; decide) (by rw [hc]; rfl) rfl ?_
      refine sn_aload_n (v := x1) (pc' := 393) dLW_392 rfl rfl rfl ?_
      refine sn_aload_n (v := x0) (pc' := 394) dLW_393 rfl rfl rfl ?_
      refine sn_iload_n (v := x3) (pc' := 395) dLW_394 rfl rfl rfl ?_
      refine sn_iconst (v := (1 : Int32)) (pc' := 396) dLW_395 rfl (by decide) ?_
      refine sn_iadd (pc' := 397) dLW_396 rfl ?_
      refine sn_aI (pc' := 398) dLW_397 rfl (fun v45 => ?_)
      refine sn_aload_n (v := x0) (pc' := 399) dLW_398 rfl rfl rfl ?_
      refine sn_iload_n (v := x3) (pc' := 400) dLW_399 rfl rfl rfl ?_
      refine sn_iconst (v := (2 : Int32)) (pc' := 401) dLW_400 rfl (by decide) ?_
      refine sn_iadd (pc' := 402) dLW_401 rfl ?_
      refine sn_aI (pc' := 403) dLW_402 rfl (fun v46 => ?_)
      refine sn_aload_n (v := x0) (pc' := 404) dLW_403 rfl rfl rfl ?_
      refine sn_iload_n (v := x3) (pc' := 405) dLW_404 rfl rfl rfl ?_
      refine sn_iconst (v := (3 : Int32)) (pc' := 406) dLW_405 rfl (by decide) ?_
      refine sn_iadd (pc' := 407) dLW_406 rfl ?_
      refine sn_aI (pc' := 408) dLW_407 rfl (fun v47 => ?_)
      refine sn_cV (r := x1) (st := []) (As := [.int v45, .int v46, .int v47]) (st2 := (fun v => .int v :: [])) (pc' := 411) ci_12 (fun t => c_X11_gathering G t v45 v46 v47) cw_X11_gathering rfl rfl tw1117 tw1119 tw1118 rfl rfl cat_nil rfl (fun _ => rfl) dLW_408 rfl (fun v48 => ?_)
      refine sn_aload_n (v := x2) (pc' := 412) dLW_411 rfl rfl rfl ?_
      refine sn_aload_n (v := x0) (pc' := 413) dLW_412 rfl rfl rfl ?_
      refine sn_iload_n (v := x3) (pc' := 414) dLW_413 rfl rfl rfl ?_
      refine sn_iconst (v := (1 : Int32)) (pc' := 415) dLW_414 rfl (by decide) ?_
      refine sn_iadd (pc' := 416) dLW_415 rfl ?_
      refine sn_aI (pc' := 417) dLW_416 rfl (fun v49 => ?_)
      refine sn_aload_n (v := x0) (pc' := 418) dLW_417 rfl rfl rfl ?_
      refine sn_iload_n (v := x3) (pc' := 419) dLW_418 rfl rfl rfl ?_
      refine sn_iconst (v := (2 : Int32)) (pc' := 420) dLW_419 rfl (by decide) ?_
      refine sn_iadd (pc' := 421) dLW_420 rfl ?_
      refine sn_aI (pc' := 422) dLW_421 rfl (fun v50 => ?_)
      refine sn_aload_n (v := x0) (pc' := 423) dLW_422 rfl rfl rfl ?_
      refine sn_iload_n (v := x3) (pc' := 424) dLW_423 rfl rfl rfl ?_
      refine sn_iconst (v := (3 : Int32)) (pc' := 425) dLW_424 rfl (by decide) ?_
      refine sn_iadd (pc' := 426) dLW_425 rfl ?_
      refine sn_aI (pc' := 427) dLW_426 rfl (fun v51 => ?_)
      refine sn_cV (r := x2) (st := [.int v48]) (As := [.int v49, .int v50, .int v51]) (st2 := (fun v => .int v :: [.int v48])) (pc' := 430) ci_13 (fun t => c_X12_gathering G t v49 v50 v51) cw_X12_gathering rfl rfl tw1598 tw1600 tw1599 rfl rfl (cat_i cat_nil) rfl (fun _ => rfl) dLW_427 rfl (fun v52 => ?_)
      refine sn_ic_eq (pt := 970) (pf := 433) dLW_430 rfl rfl ?_ ?_
      · exact sn_weak (le_s (le_s (le_s (le_s le_e)))) (s_LW_970 G k18 hk18 x0 x1 x2 x3)
      · refine sn_iconst (v := (0 : Int32)) (pc' := 434) dLW_433 rfl (by decide) ?_
        exact sn_iret dLW_434 rfl (by decide)
    refine sn_or (d := (v2 &&& (31 : Int32)) = (11 : Int32)) (fun hc => ?_) (fun hc11 => ?_)
    · refine sn_tsI (pt := 435) (off := 402) dLW_33 (by rw [hc]; decide) (by rw [hc]; decide) (by rw [hc]; rfl) rfl ?_
      refine sn_aload_n (v := x1) (pc' := 436) dLW_435 rfl rfl rfl ?_
      refine sn_aload_n (v := x0) (pc' := 437) dLW_436 rfl rfl rfl ?_
      refine sn_iload_n (v := x3) (pc' := 438) dLW_437 rfl rfl rfl ?_
      refine sn_iconst (v := (1 : Int32)) (pc' := 439) dLW_438 rfl (by decide) ?_
      refine sn_iadd (pc' := 440) dLW_439 rfl ?_
      refine sn_aI (pc' := 441) dLW_440 rfl (fun v53 => ?_)
      refine sn_cV (r := x1) (st := []) (As := [.int v53]) (st2 := (fun v => .int v :: [])) (pc' := 444) ci_12 (fun t => c_X11_leaves G t v53) cw_X11_leaves rfl rfl tw1133 tw1135 tw1134 rfl rfl cat_nil rfl (fun _ => rfl) dLW_441 rfl (fun v54 => ?_)
      refine sn_aload_n (v := x2) (pc' := 445) dLW_444 rfl rfl rfl ?_
      refine sn_aload_n (v := x0) (pc' := 446) dLW_445 rfl rfl rfl ?_
      refine sn_iload_n (v := x3) (pc' := 447) dLW_446 rfl rfl rfl ?_
      refine sn_iconst (v := (1 : Int32)) (pc' := 448) dLW_447 rfl (by decide) ?_
      refine sn_iadd (pc' := 449) dLW_448 rfl ?_
      refine sn_aI (pc' := 450) dLW_449 rfl (fun v55 => ?_)
      refine sn_cV (r := x2) (st := [.int v54]) (As := [.int v55]) (st2 := (fun v => .int v :: [.int v54])) (pc' := 453) ci_13 (fun t => c_X12_leaves G t v55) cw_X12_leaves rfl rfl tw1602 tw1604 tw1603 rfl rfl (cat_i cat_nil) rfl (fun _ => rfl) dLW_450 rfl (fun v56 => ?_)
      refine sn_ic_eq (pt := 970) (pf := 456) dLW_453 rfl rfl ?_ ?_
      · exact sn_weak (le_s (le_s (le_s (le_s le_e)))) (s_LW_970 G k18 hk18 x0 x1 x2 x3)
      · refine sn_iconst (v := (0 : Int32)) (pc' := 457) dLW_456 rfl (by decide) ?_
        exact sn_iret dLW_457 rfl (by decide)
    refine sn_or (d := (v2 &&& (31 : Int32)) = (12 : Int32)) (fun hc => ?_) (fun hc12 => ?_)
    · refine sn_tsI (pt := 458) (off := 425) dLW_33 (by rw [hc]; decide) (by rw [hc]; decide) (by rw [hc]; rfl) rfl ?_
      refine sn_aload_n (v := x1) (pc' := 459) dLW_458 rfl rfl rfl ?_
      refine sn_aload_n (v := x0) (pc' := 460) dLW_459 rfl rfl rfl ?_
      refine sn_iload_n (v := x3) (pc' := 461) dLW_460 rfl rfl rfl ?_
      refine sn_iconst (v := (1 : Int32)) (pc' := 462) dLW_461 rfl (by decide) ?_
      refine sn_iadd (pc' := 463) dLW_462 rfl ?_
      refine sn_aI (pc' := 464) dLW_463 rfl (fun v57 => ?_)
      refine sn_aload_n (v := x0) (pc' := 465) dLW_464 rfl rfl rfl ?_
      refine sn_iload_n (v := x3) (pc' := 466) dLW_465 rfl rfl rfl ?_
      refine sn_iconst (v := (2 : Int32)) (pc' := 467) dLW_466 rfl (by decide) ?_
      refine sn_iadd (pc' := 468) dLW_467 rfl ?_
      refine sn_aI (pc' := 469) dLW_468 rfl (fun v58 => ?_)
      refine sn_aload_n (v := x0) (pc' := 470) dLW_469 rfl rfl rfl ?_
      refine sn_iload_n (v := x3) (pc' := 471) dLW_470 rfl rfl rfl ?_
      refine sn_iconst (v := (3 : Int32)) (pc' := 472) dLW_471 rfl (by decide) ?_
      refine sn_iadd (pc' := 473) dLW_472 rfl ?_
      refine sn_aI (pc' := 474) dLW_473 rfl (fun v59 => ?_)
      refine sn_cV (r := x1) (st := []) (As := [.int v57, .int v58, .int v59]) (st2 := (fun v => .int v :: [])) (pc' := 477) ci_12 (fun t => c_X11_leaf G t v57 v58 v59) cw_X11_leaf rfl rfl tw1138 tw1140 tw1139 rfl rfl cat_nil rfl (fun _ => rfl) dLW_474 rfl (fun v60 => ?_)
      refine sn_aload_n (v := x2) (pc' := 478) dLW_477 rfl rfl rfl ?_
      refine sn_aload_n (v := x0) (pc' := 479) dLW_478 rfl rfl rfl ?_
      refine sn_iload_n (v := x3) (pc' := 480) dLW_479 rfl rfl rfl ?_
      refine sn_iconst (v := (1 : Int32)) (pc' := 481) dLW_480 rfl (by decide) ?_
      refine sn_iadd (pc' := 482) dLW_481 rfl ?_
      refine sn_aI (pc' := 483) dLW_482 rfl (fun v61 => ?_)
      refine sn_aload_n (v := x0) (pc' := 484) dLW_483 rfl rfl rfl ?_
      refine sn_iload_n (v := x3) (pc' := 485) dLW_484 rfl rfl rfl ?_
      refine sn_iconst (v := (2 : Int32)) (pc' := 486) dLW_485 rfl (by decide) ?_
      refine sn_iadd (pc' := 487) dLW_486 rfl ?_
      refine sn_aI (pc' := 488) dLW_487 rfl (fun v62 => ?_)
      refine sn_aload_n (v := x0) (pc' := 489) dLW_488 rfl rfl rfl ?_
      refine sn_iload_n (v := x3) (pc' := 490) dLW_489 rfl rfl rfl ?_
      refine sn_iconst (v := (3 : Int32)) (pc' := 491) dLW_490 rfl (by decide) ?_
      refine sn_iadd (pc' := 492) dLW_491 rfl ?_
      refine sn_aI (pc' := 493) dLW_492 rfl (fun v63 => ?_)
      refine sn_cV (r := x2) (st := [.int v60]) (As := [.int v61, .int v62, .int v63]) (st2 := (fun v => .int v :: [.int v60])) (pc' := 496) ci_13 (fun t => c_X12_leaf G t v61 v62 v63) cw_X12_leaf rfl rfl tw1606 tw1608 tw1607 rfl rfl (cat_i cat_nil) rfl (fun _ => rfl) dLW_493 rfl (fun v64 => ?_)
      refine sn_ic_eq (pt := 970) (pf := 499) dLW_496 rfl rfl ?_ ?_
      · exact sn_weak (le_s (le_s (le_s (le_s le_e)))) (s_LW_970 G k18 hk18 x0 x1 x2 x3)
      · refine sn_iconst (v := (0 : Int32)) (pc' := 500) dLW_499 rfl (by decide) ?_
        exact sn_iret dLW_500 rfl (by decide)
    refine sn_or (d := (v2 &&& (31 : Int32)) = (13 : Int32)) (fun hc => ?_) (fun hc13 => ?_)
    · refine sn_tsI (pt := 501) (off := 468) dLW_33 (by rw [hc]; decide) (by rw [hc]; decide) (by rw [hc]; rfl) rfl ?_
      refine sn_aload_n (v := x1) (pc' := 502) dLW_501 rfl rfl rfl ?_
      refine sn_aload_n (v := x0) (pc' := 503) dLW_502 rfl rfl rfl ?_
      refine sn_iload_n (v := x3) (pc' := 504) dLW_503 rfl rfl rfl ?_
      refine sn_iconst (v := (1 : Int32)) (pc' := 505) dLW_504 rfl (by decide) ?_
      refine sn_iadd (pc' := 506) dLW_505 rfl ?_
      refine sn_aI (pc' := 507) dLW_506 rfl (fun v65 => ?_)
      refine sn_aload_n (v := x0) (pc' := 508) dLW_507 rfl rfl rfl ?_
      refine sn_iload_n (v := x3) (pc' := 509) dLW_508 rfl rfl rfl ?_
      refine sn_iconst (v := (2 : Int32)) (pc' := 510) dLW_509 rfl (by decide) ?_
      refine sn_iadd (pc' := 511) dLW_510 rfl ?_
      refine sn_aI (pc' := 512) dLW_511 rfl (fun v66 => ?_)
      refine sn_cV (r := x1) (st := []) (As := [.int v65, .int v66]) (st2 := (fun v => .int v :: [])) (pc' := 515) ci_12 (fun t => c_X11_letter G t v65 v66) cw_X11_letter rfl rfl tw1151 tw1153 tw1152 rfl rfl cat_nil rfl (fun _ => rfl) dLW_512 rfl (fun v67 => ?_)
      refine sn_aload_n (v := x2) (pc' := 516) dLW_515 rfl rfl rfl ?_
      refine sn_aload_n (v := x0) (pc' := 517) dLW_516 rfl rfl rfl ?_
      refine sn_iload_n (v := x3) (pc' := 518) dLW_517 rfl rfl rfl ?_
      refine sn_iconst (v := (1 : Int32)) (pc' := 519) dLW_518 rfl (by decide) ?_
      refine sn_iadd (pc' := 520) dLW_519 rfl ?_
      refine sn_aI (pc' := 521) dLW_520 rfl (fun v68 => ?_)
      refine sn_aload_n (v := x0) (pc' := 522) dLW_521 rfl rfl rfl ?_
      refine sn_iload_n (v := x3) (pc' := 523) dLW_522 rfl rfl rfl ?_
      refine sn_iconst (v := (2 : Int32)) (pc' := 524) dLW_523 rfl (by decide) ?_
      refine sn_iadd (pc' := 525) dLW_524 rfl ?_
      refine sn_aI (pc' := 526) dLW_525 rfl (fun v69 => ?_)
      refine sn_cV (r := x2) (st := [.int v67]) (As := [.int v68, .int v69]) (st2 := (fun v => .int v :: [.int v67])) (pc' := 529) ci_13 (fun t => c_X12_letter G t v68 v69) cw_X12_letter rfl rfl tw1622 tw1624 tw1623 rfl rfl (cat_i cat_nil) rfl (fun _ => rfl) dLW_526 rfl (fun v70 => ?_)
      refine sn_ic_eq (pt := 970) (pf := 532) dLW_529 rfl rfl ?_ ?_
      · exact sn_weak (le_s (le_s (le_s (le_s le_e)))) (s_LW_970 G k18 hk18 x0 x1 x2 x3)
      · refine sn_iconst (v := (0 : Int32)) (pc' := 533) dLW_532 rfl (by decide) ?_
        exact sn_iret dLW_533 rfl (by decide)
    refine sn_or (d := (v2 &&& (31 : Int32)) = (14 : Int32)) (fun hc => ?_) (fun hc14 => ?_)
    · refine sn_tsI (pt := 534) (off := 501) dLW_33 (by rw [hc]; decide) (by rw [hc]; decide) (by rw [hc]; rfl) rfl ?_
      refine sn_aload_n (v := x1) (pc' := 535) dLW_534 rfl rfl rfl ?_
      refine sn_aload_n (v := x0) (pc' := 536) dLW_535 rfl rfl rfl ?_
      refine sn_iload_n (v := x3) (pc' := 537) dLW_536 rfl rfl rfl ?_
      refine sn_iconst (v := (1 : Int32)) (pc' := 538) dLW_537 rfl (by decide) ?_
      refine sn_iadd (pc' := 539) dLW_538 rfl ?_
      refine sn_aI (pc' := 540) dLW_539 rfl (fun v71 => ?_)
      refine sn_aload_n (v := x0) (pc' := 541) dLW_540 rfl rfl rfl ?_
      refine sn_iload_n (v := x3) (pc' := 542) dLW_541 rfl rfl rfl ?_
      refine sn_iconst (v := (2 : Int32)) (pc' := 543) dLW_542 rfl (by decide) ?_
      refine sn_iadd (pc' := 544) dLW_543 rfl ?_
      refine sn_aI (pc' := 545) dLW_544 rfl (fun v72 => ?_)
      refine sn_aload_n (v := x0) (pc' := 546) dLW_545 rfl rfl rfl ?_
      refine sn_iload_n (v := x3) (pc' := 547) dLW_546 rfl rfl rfl ?_
      refine sn_iconst (v := (3 : Int32)) (pc' := 548) dLW_547 rfl (by decide) ?_
      refine sn_iadd (pc' := 549) dLW_548 rfl ?_
      refine sn_aI (pc' := 550) dLW_549 rfl (fun v73 => ?_)
      refine sn_cV (r := x1) (st := []) (As := [.int v71, .int v72, .int v73]) (st2 := (fun v => .int v :: [])) (pc' := 553) ci_12 (fun t => c_X11_name G t v71 v72 v73) cw_X11_name rfl rfl tw1161 tw1163 tw1162 rfl rfl cat_nil rfl (fun _ => rfl) dLW_550 rfl (fun v74 => ?_)
      refine sn_aload_n (v := x2) (pc' := 554) dLW_553 rfl rfl rfl ?_
      refine sn_aload_n (v := x0) (pc' := 555) dLW_554 rfl rfl rfl ?_
      refine sn_iload_n (v := x3) (pc' := 556) dLW_555 rfl rfl rfl ?_
      refine sn_iconst (v := (1 : Int32)) (pc' := 557) dLW_556 rfl (by decide) ?_
      refine sn_iadd (pc' := 558) dLW_557 rfl ?_
      refine sn_aI (pc' := 559) dLW_558 rfl (fun v75 => ?_)
      refine sn_aload_n (v := x0) (pc' := 560) dLW_559 rfl rfl rfl ?_
      refine sn_iload_n (v := x3) (pc' := 561) dLW_560 rfl rfl rfl ?_
      refine sn_iconst (v := (2 : Int32)) (pc' := 562) dLW_561 rfl (by decide) ?_
      refine sn_iadd (pc' := 563) dLW_562 rfl ?_
      refine sn_aI (pc' := 564) dLW_563 rfl (fun v76 => ?_)
      refine sn_aload_n (v := x0) (pc' := 565) dLW_564 rfl rfl rfl ?_
      refine sn_iload_n (v := x3) (pc' := 566) dLW_565 rfl rfl rfl ?_
      refine sn_iconst (v := (3 : Int32)) (pc' := 567) dLW_566 rfl (by decide) ?_
      refine sn_iadd (pc' := 568) dLW_567 rfl ?_
      refine sn_aI (pc' := 569) dLW_568 rfl (fun v77 => ?_)
      refine sn_cV (r := x2) (st := [.int v74]) (As := [.int v75, .int v76, .int v77]) (st2 := (fun v => .int v :: [.int v74])) (pc' := 572) ci_13 (fun t => c_X12_name G t v75 v76 v77) cw_X12_name rfl rfl tw1657 tw1659 tw1658 rfl rfl (cat_i cat_nil) rfl (fun _ => rfl) dLW_569 rfl (fun v78 => ?_)
      refine sn_ic_eq (pt := 970) (pf := 575) dLW_572 rfl rfl ?_ ?_
      · exact sn_weak (le_s (le_s (le_s (le_s le_e)))) (s_LW_970 G k18 hk18 x0 x1 x2 x3)
      · refine sn_iconst (v := (0 : Int32)) (pc' := 576) dLW_575 rfl (by decide) ?_
        exact sn_iret dLW_576 rfl (by decide)
    refine sn_or (d := (v2 &&& (31 : Int32)) = (15 : Int32)) (fun hc => ?_) (fun hc15 => ?_)
    · refine sn_tsI (pt := 577) (off := 544) dLW_33 (by rw [hc]; decide) (by rw [hc]; decide) (by rw [hc]; rfl) rfl ?_
      refine sn_aload_n (v := x1) (pc' := 578) dLW_577 rfl rfl rfl ?_
      refine sn_aload_n (v := x0) (pc' := 579) dLW_578 rfl rfl rfl ?_
      refine sn_iload_n (v := x3) (pc' := 580) dLW_579 rfl rfl rfl ?_
      refine sn_iconst (v := (1 : Int32)) (pc' := 581) dLW_580 rfl (by decide) ?_
      refine sn_iadd (pc' := 582) dLW_581 rfl ?_
      refine sn_aI (pc' := 583) dLW_582 rfl (fun v79 => ?_)
      refine sn_aload_n (v := x0) (pc' := 584) dLW_583 rfl rfl rfl ?_
      refine sn_iload_n (v := x3) (pc' := 585) dLW_584 rfl rfl rfl ?_
      refine sn_iconst (v := (2 : Int32)) (pc' := 586) dLW_585 rfl (by decide) ?_
      refine sn_iadd (pc' := 587) dLW_586 rfl ?_
      refine sn_aI (pc' := 588) dLW_587 rfl (fun v80 => ?_)
      refine sn_cV (r := x1) (st := []) (As := [.int v79, .int v80]) (st2 := (fun v => .int v :: [])) (pc' := 591) ci_12 (fun t => c_X11_same G t v79 v80) cw_X11_same rfl rfl tw1169 tw1171 tw1170 rfl rfl cat_nil rfl (fun _ => rfl) dLW_588 rfl (fun v81 => ?_)
      refine sn_aload_n (v := x2) (pc' := 592) dLW_591 rfl rfl rfl ?_
      refine sn_aload_n (v := x0) (pc' := 593) dLW_592 rfl rfl rfl ?_
      refine sn_iload_n (v := x3) (pc' := 594) dLW_593 rfl rfl rfl ?_
      refine sn_iconst (v := (1 : Int32)) (pc' := 595) dLW_594 rfl (by decide) ?_
      refine sn_iadd (pc' := 596) dLW_595 rfl ?_
      refine sn_aI (pc' := 597) dLW_596 rfl (fun v82 => ?_)
      refine sn_aload_n (v := x0) (pc' := 598) dLW_597 rfl rfl rfl ?_
      refine sn_iload_n (v := x3) (pc' := 599) dLW_598 rfl rfl rfl ?_
      refine sn_iconst (v := (2 : Int32)) (pc' := 600) dLW_599 rfl (by decide) ?_
      refine sn_iadd (pc' := 601) dLW_600 rfl ?_
      refine sn_aI (pc' := 602) dLW_601 rfl (fun v83 => ?_)
      refine sn_cV (r := x2) (st := [.int v81]) (As := [.int v82, .int v83]) (st2 := (fun v => .int v :: [.int v81])) (pc' := 605) ci_13 (fun t => c_X12_same G t v82 v83) cw_X12_same rfl rfl tw1665 tw1667 tw1666 rfl rfl (cat_i cat_nil) rfl (fun _ => rfl) dLW_602 rfl (fun v84 => ?_)
      refine sn_ic_eq (pt := 970) (pf := 608) dLW_605 rfl rfl ?_ ?_
      · exact sn_weak (le_s (le_s (le_s (le_s le_e)))) (s_LW_970 G k18 hk18 x0 x1 x2 x3)
      · refine sn_iconst (v := (0 : Int32)) (pc' := 609) dLW_608 rfl (by decide) ?_
        exact sn_iret dLW_609 rfl (by decide)
    refine sn_or (d := (v2 &&& (31 : Int32)) = (16 : Int32)) (fun hc => ?_) (fun hc16 => ?_)
    · refine sn_tsI (pt := 610) (off := 577) dLW_33 (by rw [hc]; decide) (by rw [hc]; decide) (by rw [hc]; rfl) rfl ?_
      refine sn_aload_n (v := x1) (pc' := 611) dLW_610 rfl rfl rfl ?_
      refine sn_aload_n (v := x0) (pc' := 612) dLW_611 rfl rfl rfl ?_
      refine sn_iload_n (v := x3) (pc' := 613) dLW_612 rfl rfl rfl ?_
      refine sn_iconst (v := (1 : Int32)) (pc' := 614) dLW_613 rfl (by decide) ?_
      refine sn_iadd (pc' := 615) dLW_614 rfl ?_
      refine sn_aI (pc' := 616) dLW_615 rfl (fun v85 => ?_)
      refine sn_aload_n (v := x0) (pc' := 617) dLW_616 rfl rfl rfl ?_
      refine sn_iload_n (v := x3) (pc' := 618) dLW_617 rfl rfl rfl ?_
      refine sn_iconst (v := (2 : Int32)) (pc' := 619) dLW_618 rfl (by decide) ?_
      refine sn_iadd (pc' := 620) dLW_619 rfl ?_
      refine sn_aI (pc' := 621) dLW_620 rfl (fun v86 => ?_)
      refine sn_cV (r := x1) (st := []) (As := [.int v85, .int v86]) (st2 := (fun v => .int v :: [])) (pc' := 624) ci_12 (fun t => c_X11_sheets G t v85 v86) cw_X11_sheets rfl rfl tw1181 tw1183 tw1182 rfl rfl cat_nil rfl (fun _ => rfl) dLW_621 rfl (fun v87 => ?_)
      refine sn_aload_n (v := x2) (pc' := 625) dLW_624 rfl rfl rfl ?_
      refine sn_aload_n (v := x0) (pc' := 626) dLW_625 rfl rfl rfl ?_
      refine sn_iload_n (v := x3) (pc' := 627) dLW_626 rfl rfl rfl ?_
      refine sn_iconst (v := (1 : Int32)) (pc' := 628) dLW_627 rfl (by decide) ?_
      refine sn_iadd (pc' := 629) dLW_628 rfl ?_
      refine sn_aI (pc' := 630) dLW_629 rfl (fun v88 => ?_)
      refine sn_aload_n (v := x0) (pc' := 631) dLW_630 rfl rfl rfl ?_
      refine sn_iload_n (v := x3) (pc' := 632) dLW_631 rfl rfl rfl ?_
      refine sn_iconst (v := (2 : Int32)) (pc' := 633) dLW_632 rfl (by decide) ?_
      refine sn_iadd (pc' := 634) dLW_633 rfl ?_
      refine sn_aI (pc' := 635) dLW_634 rfl (fun v89 => ?_)
      refine sn_cV (r := x2) (st := [.int v87]) (As := [.int v88, .int v89]) (st2 := (fun v => .int v :: [.int v87])) (pc' := 638) ci_13 (fun t => c_X12_sheets G t v88 v89) cw_X12_sheets rfl rfl tw1669 tw1671 tw1670 rfl rfl (cat_i cat_nil) rfl (fun _ => rfl) dLW_635 rfl (fun v90 => ?_)
      refine sn_ic_eq (pt := 970) (pf := 641) dLW_638 rfl rfl ?_ ?_
      · exact sn_weak (le_s (le_s (le_s (le_s le_e)))) (s_LW_970 G k18 hk18 x0 x1 x2 x3)
      · refine sn_iconst (v := (0 : Int32)) (pc' := 642) dLW_641 rfl (by decide) ?_
        exact sn_iret dLW_642 rfl (by decide)
    refine sn_or (d := (v2 &&& (31 : Int32)) = (17 : Int32)) (fun hc => ?_) (fun hc17 => ?_)
    · refine sn_tsI (pt := 643) (off := 610) dLW_33 (by rw [hc]; decide) (by rw [hc]; decide) (by rw [hc]; rfl) rfl ?_
      refine sn_aload_n (v := x1) (pc' := 644) dLW_643 rfl rfl rfl ?_
      refine sn_aload_n (v := x0) (pc' := 645) dLW_644 rfl rfl rfl ?_
      refine sn_iload_n (v := x3) (pc' := 646) dLW_645 rfl rfl rfl ?_
      refine sn_iconst (v := (1 : Int32)) (pc' := 647) dLW_646 rfl (by decide) ?_
      refine sn_iadd (pc' := 648) dLW_647 rfl ?_
      refine sn_aI (pc' := 649) dLW_648 rfl (fun v91 => ?_)
      refine sn_aload_n (v := x0) (pc' := 650) dLW_649 rfl rfl rfl ?_
      refine sn_iload_n (v := x3) (pc' := 651) dLW_650 rfl rfl rfl ?_
      refine sn_iconst (v := (2 : Int32)) (pc' := 652) dLW_651 rfl (by decide) ?_
      refine sn_iadd (pc' := 653) dLW_652 rfl ?_
      refine sn_aI (pc' := 654) dLW_653 rfl (fun v92 => ?_)
      refine sn_aload_n (v := x0) (pc' := 655) dLW_654 rfl rfl rfl ?_
      refine sn_iload_n (v := x3) (pc' := 656) dLW_655 rfl rfl rfl ?_
      refine sn_iconst (v := (3 : Int32)) (pc' := 657) dLW_656 rfl (by decide) ?_
      refine sn_iadd (pc' := 658) dLW_657 rfl ?_
      refine sn_aI (pc' := 659) dLW_658 rfl (fun v93 => ?_)
      refine sn_aload_n (v := x0) (pc' := 660) dLW_659 rfl rfl rfl ?_
      refine sn_iload_n (v := x3) (pc' := 661) dLW_660 rfl rfl rfl ?_
      refine sn_iconst (v := (4 : Int32)) (pc' := 662) dLW_661 rfl (by decide) ?_
      refine sn_iadd (pc' := 663) dLW_662 rfl ?_
      refine sn_aI (pc' := 664) dLW_663 rfl (fun v94 => ?_)
      refine sn_cV (r := x1) (st := []) (As := [.int v91, .int v92, .int v93, .int v94]) (st2 := (fun v => .int v :: [])) (pc' := 667) ci_12 (fun t => c_X11_sheet G t v91 v92 v93 v94) cw_X11_sheet rfl rfl tw1196 tw1198 tw1197 rfl rfl cat_nil rfl (fun _ => rfl) dLW_664 rfl (fun v95 => ?_)
      refine sn_aload_n (v := x2) (pc' := 668) dLW_667 rfl rfl rfl ?_
      refine sn_aload_n (v := x0) (pc' := 669) dLW_668 rfl rfl rfl ?_
      refine sn_iload_n (v := x3) (pc' := 670) dLW_669 rfl rfl rfl ?_
      refine sn_iconst (v := (1 : Int32)) (pc' := 671) dLW_670 rfl (by decide) ?_
      refine sn_iadd (pc' := 672) dLW_671 rfl ?_
      refine sn_aI (pc' := 673) dLW_672 rfl (fun v96 => ?_)
      refine sn_aload_n (v := x0) (pc' := 674) dLW_673 rfl rfl rfl ?_
      refine sn_iload_n (v := x3) (pc' := 675) dLW_674 rfl rfl rfl ?_
      refine sn_iconst (v := (2 : Int32)) (pc' := 676) dLW_675 rfl (by decide) ?_
      refine sn_iadd (pc' := 677) dLW_676 rfl ?_
      refine sn_aI (pc' := 678) dLW_677 rfl (fun v97 => ?_)
      refine sn_aload_n (v := x0) (pc' := 679) dLW_678 rfl rfl rfl ?_
      refine sn_iload_n (v := x3) (pc' := 680) dLW_679 rfl rfl rfl ?_
      refine sn_iconst (v := (3 : Int32)) (pc' := 681) dLW_680 rfl (by decide) ?_
      refine sn_iadd (pc' := 682) dLW_681 rfl ?_
      refine sn_aI (pc' := 683) dLW_682 rfl (fun v98 => ?_)
      refine sn_aload_n (v := x0) (pc' := 684) dLW_683 rfl rfl rfl ?_
      refine sn_iload_n (v := x3) (pc' := 685) dLW_684 rfl rfl rfl ?_
      refine sn_iconst (v := (4 : Int32)) (pc' := 686) dLW_685 rfl (by decide) ?_
      refine sn_iadd (pc' := 687) dLW_686 rfl ?_
      refine sn_aI (pc' := 688) dLW_687 rfl (fun v99 => ?_)
      refine sn_cV (r := x2) (st := [.int v95]) (As := [.int v96, .int v97, .int v98, .int v99]) (st2 := (fun v => .int v :: [.int v95])) (pc' := 691) ci_13 (fun t => c_X12_sheet G t v96 v97 v98 v99) cw_X12_sheet rfl rfl tw1683 tw1685 tw1684 rfl rfl (cat_i cat_nil) rfl (fun _ => rfl) dLW_688 rfl (fun v100 => ?_)
      refine sn_ic_eq (pt := 970) (pf := 694) dLW_691 rfl rfl ?_ ?_
      · exact sn_weak (le_s (le_s (le_s (le_s le_e)))) (s_LW_970 G k18 hk18 x0 x1 x2 x3)
      · refine sn_iconst (v := (0 : Int32)) (pc' := 695) dLW_694 rfl (by decide) ?_
        exact sn_iret dLW_695 rfl (by decide)
    refine sn_or (d := (v2 &&& (31 : Int32)) = (18 : Int32)) (fun hc => ?_) (fun hc18 => ?_)
    · refine sn_tsI (pt := 696) (off := 663) dLW_33 (by rw [hc]; decide) (by rw [hc]; decide) (by rw [hc]; rfl) rfl ?_
      refine sn_aload_n (v := x1) (pc' := 697) dLW_696 rfl rfl rfl ?_
      refine sn_aload_n (v := x0) (pc' := 698) dLW_697 rfl rfl rfl ?_
      refine sn_iload_n (v := x3) (pc' := 699) dLW_698 rfl rfl rfl ?_
      refine sn_iconst (v := (1 : Int32)) (pc' := 700) dLW_699 rfl (by decide) ?_
      refine sn_iadd (pc' := 701) dLW_700 rfl ?_
      refine sn_aI (pc' := 702) dLW_701 rfl (fun v101 => ?_)
      refine sn_aload_n (v := x0) (pc' := 703) dLW_702 rfl rfl rfl ?_
      refine sn_iload_n (v := x3) (pc' := 704) dLW_703 rfl rfl rfl ?_
      refine sn_iconst (v := (2 : Int32)) (pc' := 705) dLW_704 rfl (by decide) ?_
      refine sn_iadd (pc' := 706) dLW_705 rfl ?_
      refine sn_aI (pc' := 707) dLW_706 rfl (fun v102 => ?_)
      refine sn_aload_n (v := x0) (pc' := 708) dLW_707 rfl rfl rfl ?_
      refine sn_iload_n (v := x3) (pc' := 709) dLW_708 rfl rfl rfl ?_
      refine sn_iconst (v := (3 : Int32)) (pc' := 710) dLW_709 rfl (by decide) ?_
      refine sn_iadd (pc' := 711) dLW_710 rfl ?_
      refine sn_aI (pc' := 712) dLW_711 rfl (fun v103 => ?_)
      refine sn_aload_n (v := x0) (pc' := 713) dLW_712 rfl rfl rfl ?_
      refine sn_iload_n (v := x3) (pc' := 714) dLW_713 rfl rfl rfl ?_
      refine sn_iconst (v := (4 : Int32)) (pc' := 715) dLW_714 rfl (by decide) ?_
      refine sn_iadd (pc' := 716) dLW_715 rfl ?_
      refine sn_aI (pc' := 717) dLW_716 rfl (fun v104 => ?_)
      refine sn_cV (r := x1) (st := []) (As := [.int v101, .int v102, .int v103, .int v104]) (st2 := (fun v => .int v :: [])) (pc' := 720) ci_12 (fun t => c_X11_forme G t v101 v102 v103 v104) cw_X11_forme rfl rfl tw1209 tw1211 tw1210 rfl rfl cat_nil rfl (fun _ => rfl) dLW_717 rfl (fun v105 => ?_)
      refine sn_aload_n (v := x2) (pc' := 721) dLW_720 rfl rfl rfl ?_
      refine sn_aload_n (v := x0) (pc' := 722) dLW_721 rfl rfl rfl ?_
      refine sn_iload_n (v := x3) (pc' := 723) dLW_722 rfl rfl rfl ?_
      refine sn_iconst (v := (1 : Int32)) (pc' := 724) dLW_723 rfl (by decide) ?_
      refine sn_iadd (pc' := 725) dLW_724 rfl ?_
      refine sn_aI (pc' := 726) dLW_725 rfl (fun v106 => ?_)
      refine sn_aload_n (v := x0) (pc' := 727) dLW_726 rfl rfl rfl ?_
      refine sn_iload_n (v := x3) (pc' := 728) dLW_727 rfl rfl rfl ?_
      refine sn_iconst (v := (2 : Int32)) (pc' := 729) dLW_728 rfl (by decide) ?_
      refine sn_iadd (pc' := 730) dLW_729 rfl ?_
      refine sn_aI (pc' := 731) dLW_730 rfl (fun v107 => ?_)
      refine sn_aload_n (v := x0) (pc' := 732) dLW_731 rfl rfl rfl ?_
      refine sn_iload_n (v := x3) (pc' := 733) dLW_732 rfl rfl rfl ?_
      refine sn_iconst (v := (3 : Int32)) (pc' := 734) dLW_733 rfl (by decide) ?_
      refine sn_iadd (pc' := 735) dLW_734 rfl ?_
      refine sn_aI (pc' := 736) dLW_735 rfl (fun v108 => ?_)
      refine sn_aload_n (v := x0) (pc' := 737) dLW_736 rfl rfl rfl ?_
      refine sn_iload_n (v := x3) (pc' := 738) dLW_737 rfl rfl rfl ?_
      refine sn_iconst (v := (4 : Int32)) (pc' := 739) dLW_738 rfl (by decide) ?_
      refine sn_iadd (pc' := 740) dLW_739 rfl ?_
      refine sn_aI (pc' := 741) dLW_740 rfl (fun v109 => ?_)
      refine sn_cV (r := x2) (st := [.int v105]) (As := [.int v106, .int v107, .int v108, .int v109]) (st2 := (fun v => .int v :: [.int v105])) (pc' := 744) ci_13 (fun t => c_X12_forme G t v106 v107 v108 v109) cw_X12_forme rfl rfl tw1690 tw1692 tw1691 rfl rfl (cat_i cat_nil) rfl (fun _ => rfl) dLW_741 rfl (fun v110 => ?_)
      refine sn_ic_eq (pt := 970) (pf := 747) dLW_744 rfl rfl ?_ ?_
      · exact sn_weak (le_s (le_s (le_s (le_s le_e)))) (s_LW_970 G k18 hk18 x0 x1 x2 x3)
      · refine sn_iconst (v := (0 : Int32)) (pc' := 748) dLW_747 rfl (by decide) ?_
        exact sn_iret dLW_748 rfl (by decide)
    refine sn_or (d := (v2 &&& (31 : Int32)) = (19 : Int32)) (fun hc => ?_) (fun hc19 => ?_)
    · refine sn_tsI (pt := 749) (off := 716) dLW_33 (by rw [hc]; decide) (by rw [hc]; decide) (by rw [hc]; rfl) rfl ?_
      refine sn_aload_n (v := x1) (pc' := 750) dLW_749 rfl rfl rfl ?_
      refine sn_aload_n (v := x0) (pc' := 751) dLW_750 rfl rfl rfl ?_
      refine sn_iload_n (v := x3) (pc' := 752) dLW_751 rfl rfl rfl ?_
      refine sn_iconst (v := (1 : Int32)) (pc' := 753) dLW_752 rfl (by decide) ?_
      refine sn_iadd (pc' := 754) dLW_753 rfl ?_
      refine sn_aI (pc' := 755) dLW_754 rfl (fun v111 => ?_)
      refine sn_aload_n (v := x0) (pc' := 756) dLW_755 rfl rfl rfl ?_
      refine sn_iload_n (v := x3) (pc' := 757) dLW_756 rfl rfl rfl ?_
      refine sn_iconst (v := (2 : Int32)) (pc' := 758) dLW_757 rfl (by decide) ?_
      refine sn_iadd (pc' := 759) dLW_758 rfl ?_
      refine sn_aI (pc' := 760) dLW_759 rfl (fun v112 => ?_)
      refine sn_cV (r := x1) (st := []) (As := [.int v111, .int v112]) (st2 := (fun v => .int v :: [])) (pc' := 763) ci_12 (fun t => c_X11_state G t v111 v112) cw_X11_state rfl rfl tw1218 tw1220 tw1219 rfl rfl cat_nil rfl (fun _ => rfl) dLW_760 rfl (fun v113 => ?_)
      refine sn_aload_n (v := x2) (pc' := 764) dLW_763 rfl rfl rfl ?_
      refine sn_aload_n (v := x0) (pc' := 765) dLW_764 rfl rfl rfl ?_
      refine sn_iload_n (v := x3) (pc' := 766) dLW_765 rfl rfl rfl ?_
      refine sn_iconst (v := (1 : Int32)) (pc' := 767) dLW_766 rfl (by decide) ?_
      refine sn_iadd (pc' := 768) dLW_767 rfl ?_
      refine sn_aI (pc' := 769) dLW_768 rfl (fun v114 => ?_)
      refine sn_aload_n (v := x0) (pc' := 770) dLW_769 rfl rfl rfl ?_
      refine sn_iload_n (v := x3) (pc' := 771) dLW_770 rfl rfl rfl ?_
      refine sn_iconst (v := (2 : Int32)) (pc' := 772) dLW_771 rfl (by decide) ?_
      refine sn_iadd (pc' := 773) dLW_772 rfl ?_
      refine sn_aI (pc' := 774) dLW_773 rfl (fun v115 => ?_)
      refine sn_cV (r := x2) (st := [.int v113]) (As := [.int v114, .int v115]) (st2 := (fun v => .int v :: [.int v113])) (pc' := 777) ci_13 (fun t => c_X12_state G t v114 v115) cw_X12_state rfl rfl tw1694 tw1696 tw1695 rfl rfl (cat_i cat_nil) rfl (fun _ => rfl) dLW_774 rfl (fun v116 => ?_)
      refine sn_ic_eq (pt := 970) (pf := 780) dLW_777 rfl rfl ?_ ?_
      · exact sn_weak (le_s (le_s (le_s (le_s le_e)))) (s_LW_970 G k18 hk18 x0 x1 x2 x3)
      · refine sn_iconst (v := (0 : Int32)) (pc' := 781) dLW_780 rfl (by decide) ?_
        exact sn_iret dLW_781 rfl (by decide)
    refine sn_or (d := (v2 &&& (31 : Int32)) = (20 : Int32)) (fun hc => ?_) (fun hc20 => ?_)
    · refine sn_tsI (pt := 782) (off := 749) dLW_33 (by rw [hc]; decide) (by rw [hc]; decide) (by rw [hc]; rfl) rfl ?_
      refine sn_aload_n (v := x1) (pc' := 783) dLW_782 rfl rfl rfl ?_
      refine sn_aload_n (v := x0) (pc' := 784) dLW_783 rfl rfl rfl ?_
      refine sn_iload_n (v := x3) (pc' := 785) dLW_784 rfl rfl rfl ?_
      refine sn_iconst (v := (1 : Int32)) (pc' := 786) dLW_785 rfl (by decide) ?_
      refine sn_iadd (pc' := 787) dLW_786 rfl ?_
      refine sn_aI (pc' := 788) dLW_787 rfl (fun v117 => ?_)
      refine sn_aload_n (v := x0) (pc' := 789) dLW_788 rfl rfl rfl ?_
      refine sn_iload_n (v := x3) (pc' := 790) dLW_789 rfl rfl rfl ?_
      refine sn_iconst (v := (2 : Int32)) (pc' := 791) dLW_790 rfl (by decide) ?_
      refine sn_iadd (pc' := 792) dLW_791 rfl ?_
      refine sn_aI (pc' := 793) dLW_792 rfl (fun v118 => ?_)
      refine sn_cV (r := x1) (st := []) (As := [.int v117, .int v118]) (st2 := (fun v => .int v :: [])) (pc' := 796) ci_12 (fun t => c_X11_entry G t v117 v118) cw_X11_entry rfl rfl tw1230 tw1232 tw1231 rfl rfl cat_nil rfl (fun _ => rfl) dLW_793 rfl (fun v119 => ?_)
      refine sn_aload_n (v := x2) (pc' := 797) dLW_796 rfl rfl rfl ?_
      refine sn_aload_n (v := x0) (pc' := 798) dLW_797 rfl rfl rfl ?_
      refine sn_iload_n (v := x3) (pc' := 799) dLW_798 rfl rfl rfl ?_
      refine sn_iconst (v := (1 : Int32)) (pc' := 800) dLW_799 rfl (by decide) ?_
      refine sn_iadd (pc' := 801) dLW_800 rfl ?_
      refine sn_aI (pc' := 802) dLW_801 rfl (fun v120 => ?_)
      refine sn_aload_n (v := x0) (pc' := 803) dLW_802 rfl rfl rfl ?_
      refine sn_iload_n (v := x3) (pc' := 804) dLW_803 rfl rfl rfl ?_
      refine sn_iconst (v := (2 : Int32)) (pc' := 805) dLW_804 rfl (by decide) ?_
      refine sn_iadd (pc' := 806) dLW_805 rfl ?_
      refine sn_aI (pc' := 807) dLW_806 rfl (fun v121 => ?_)
      refine sn_cV (r := x2) (st := [.int v119]) (As := [.int v120, .int v121]) (st2 := (fun v => .int v :: [.int v119])) (pc' := 810) ci_13 (fun t => c_X12_entry G t v120 v121) cw_X12_entry rfl rfl tw1719 tw1721 tw1720 rfl rfl (cat_i cat_nil) rfl (fun _ => rfl) dLW_807 rfl (fun v122 => ?_)
      refine sn_ic_eq (pt := 970) (pf := 813) dLW_810 rfl rfl ?_ ?_
      · exact sn_weak (le_s (le_s (le_s (le_s le_e)))) (s_LW_970 G k18 hk18 x0 x1 x2 x3)
      · refine sn_iconst (v := (0 : Int32)) (pc' := 814) dLW_813 rfl (by decide) ?_
        exact sn_iret dLW_814 rfl (by decide)
    refine sn_or (d := (v2 &&& (31 : Int32)) = (21 : Int32)) (fun hc => ?_) (fun hc21 => ?_)
    · refine sn_tsI (pt := 815) (off := 782) dLW_33 (by rw [hc]; decide) (by rw [hc]; decide) (by rw [hc]; rfl) rfl ?_
      refine sn_aload_n (v := x1) (pc' := 816) dLW_815 rfl rfl rfl ?_
      refine sn_aload_n (v := x0) (pc' := 817) dLW_816 rfl rfl rfl ?_
      refine sn_iload_n (v := x3) (pc' := 818) dLW_817 rfl rfl rfl ?_
      refine sn_iconst (v := (1 : Int32)) (pc' := 819) dLW_818 rfl (by decide) ?_
      refine sn_iadd (pc' := 820) dLW_819 rfl ?_
      refine sn_aI (pc' := 821) dLW_820 rfl (fun v123 => ?_)
      refine sn_aload_n (v := x0) (pc' := 822) dLW_821 rfl rfl rfl ?_
      refine sn_iload_n (v := x3) (pc' := 823) dLW_822 rfl rfl rfl ?_
      refine sn_iconst (v := (2 : Int32)) (pc' := 824) dLW_823 rfl (by decide) ?_
      refine sn_iadd (pc' := 825) dLW_824 rfl ?_
      refine sn_aI (pc' := 826) dLW_825 rfl (fun v124 => ?_)
      refine sn_aload_n (v := x0) (pc' := 827) dLW_826 rfl rfl rfl ?_
      refine sn_iload_n (v := x3) (pc' := 828) dLW_827 rfl rfl rfl ?_
      refine sn_iconst (v := (3 : Int32)) (pc' := 829) dLW_828 rfl (by decide) ?_
      refine sn_iadd (pc' := 830) dLW_829 rfl ?_
      refine sn_aI (pc' := 831) dLW_830 rfl (fun v125 => ?_)
      refine sn_cV (r := x1) (st := []) (As := [.int v123, .int v124, .int v125]) (st2 := (fun v => .int v :: [])) (pc' := 834) ci_12 (fun t => c_X11_told G t v123 v124 v125) cw_X11_told rfl rfl tw1239 tw1241 tw1240 rfl rfl cat_nil rfl (fun _ => rfl) dLW_831 rfl (fun v126 => ?_)
      refine sn_aload_n (v := x2) (pc' := 835) dLW_834 rfl rfl rfl ?_
      refine sn_aload_n (v := x0) (pc' := 836) dLW_835 rfl rfl rfl ?_
      refine sn_iload_n (v := x3) (pc' := 837) dLW_836 rfl rfl rfl ?_
      refine sn_iconst (v := (1 : Int32)) (pc' := 838) dLW_837 rfl (by decide) ?_
      refine sn_iadd (pc' := 839) dLW_838 rfl ?_
      refine sn_aI (pc' := 840) dLW_839 rfl (fun v127 => ?_)
      refine sn_aload_n (v := x0) (pc' := 841) dLW_840 rfl rfl rfl ?_
      refine sn_iload_n (v := x3) (pc' := 842) dLW_841 rfl rfl rfl ?_
      refine sn_iconst (v := (2 : Int32)) (pc' := 843) dLW_842 rfl (by decide) ?_
      refine sn_iadd (pc' := 844) dLW_843 rfl ?_
      refine sn_aI (pc' := 845) dLW_844 rfl (fun v128 => ?_)
      refine sn_aload_n (v := x0) (pc' := 846) dLW_845 rfl rfl rfl ?_
      refine sn_iload_n (v := x3) (pc' := 847) dLW_846 rfl rfl rfl ?_
      refine sn_iconst (v := (3 : Int32)) (pc' := 848) dLW_847 rfl (by decide) ?_
      refine sn_iadd (pc' := 849) dLW_848 rfl ?_
      refine sn_aI (pc' := 850) dLW_849 rfl (fun v129 => ?_)
      refine sn_cV (r := x2) (st := [.int v126]) (As := [.int v127, .int v128, .int v129]) (st2 := (fun v => .int v :: [.int v126])) (pc' := 853) ci_13 (fun t => c_X12_told G t v127 v128 v129) cw_X12_told rfl rfl tw1723 tw1725 tw1724 rfl rfl (cat_i cat_nil) rfl (fun _ => rfl) dLW_850 rfl (fun v130 => ?_)
      refine sn_ic_eq (pt := 970) (pf := 856) dLW_853 rfl rfl ?_ ?_
      · exact sn_weak (le_s (le_s (le_s (le_s le_e)))) (s_LW_970 G k18 hk18 x0 x1 x2 x3)
      · refine sn_iconst (v := (0 : Int32)) (pc' := 857) dLW_856 rfl (by decide) ?_
        exact sn_iret dLW_857 rfl (by decide)
    refine sn_or (d := (v2 &&& (31 : Int32)) = (22 : Int32)) (fun hc => ?_) (fun hc22 => ?_)
    · refine sn_tsI (pt := 858) (off := 825) dLW_33 (by rw [hc]; decide) (by rw [hc]; decide) (by rw [hc]; rfl) rfl ?_
      refine sn_aload_n (v := x1) (pc' := 859) dLW_858 rfl rfl rfl ?_
      refine sn_aload_n (v := x0) (pc' := 860) dLW_859 rfl rfl rfl ?_
      refine sn_iload_n (v := x3) (pc' := 861) dLW_860 rfl rfl rfl ?_
      refine sn_iconst (v := (1 : Int32)) (pc' := 862) dLW_861 rfl (by decide) ?_
      refine sn_iadd (pc' := 863) dLW_862 rfl ?_
      refine sn_aI (pc' := 864) dLW_863 rfl (fun v131 => ?_)
      refine sn_aload_n (v := x0) (pc' := 865) dLW_864 rfl rfl rfl ?_
      refine sn_iload_n (v := x3) (pc' := 866) dLW_865 rfl rfl rfl ?_
      refine sn_iconst (v := (2 : Int32)) (pc' := 867) dLW_866 rfl (by decide) ?_
      refine sn_iadd (pc' := 868) dLW_867 rfl ?_
      refine sn_aI (pc' := 869) dLW_868 rfl (fun v132 => ?_)
      refine sn_cV (r := x1) (st := []) (As := [.int v131, .int v132]) (st2 := (fun v => .int v :: [])) (pc' := 872) ci_12 (fun t => c_X11_note G t v131 v132) cw_X11_note rfl rfl tw1243 tw1245 tw1244 rfl rfl cat_nil rfl (fun _ => rfl) dLW_869 rfl (fun v133 => ?_)
      refine sn_aload_n (v := x2) (pc' := 873) dLW_872 rfl rfl rfl ?_
      refine sn_aload_n (v := x0) (pc' := 874) dLW_873 rfl rfl rfl ?_
      refine sn_iload_n (v := x3) (pc' := 875) dLW_874 rfl rfl rfl ?_
      refine sn_iconst (v := (1 : Int32)) (pc' := 876) dLW_875 rfl (by decide) ?_
      refine sn_iadd (pc' := 877) dLW_876 rfl ?_
      refine sn_aI (pc' := 878) dLW_877 rfl (fun v134 => ?_)
      refine sn_aload_n (v := x0) (pc' := 879) dLW_878 rfl rfl rfl ?_
      refine sn_iload_n (v := x3) (pc' := 880) dLW_879 rfl rfl rfl ?_
      refine sn_iconst (v := (2 : Int32)) (pc' := 881) dLW_880 rfl (by decide) ?_
      refine sn_iadd (pc' := 882) dLW_881 rfl ?_
      refine sn_aI (pc' := 883) dLW_882 rfl (fun v135 => ?_)
      refine sn_cV (r := x2) (st := [.int v133]) (As := [.int v134, .int v135]) (st2 := (fun v => .int v :: [.int v133])) (pc' := 886) ci_13 (fun t => c_X12_note G t v134 v135) cw_X12_note rfl rfl tw1727 tw1729 tw1728 rfl rfl (cat_i cat_nil) rfl (fun _ => rfl) dLW_883 rfl (fun v136 => ?_)
      refine sn_ic_eq (pt := 970) (pf := 889) dLW_886 rfl rfl ?_ ?_
      · exact sn_weak (le_s (le_s (le_s (le_s le_e)))) (s_LW_970 G k18 hk18 x0 x1 x2 x3)
      · refine sn_iconst (v := (0 : Int32)) (pc' := 890) dLW_889 rfl (by decide) ?_
        exact sn_iret dLW_890 rfl (by decide)
    refine sn_or (d := (v2 &&& (31 : Int32)) = (23 : Int32)) (fun hc => ?_) (fun hc23 => ?_)
    · refine sn_tsI (pt := 891) (off := 858) dLW_33 (by rw [hc]; decide) (by rw [hc]; decide) (by rw [hc]; rfl) rfl ?_
      refine sn_aload_n (v := x1) (pc' := 892) dLW_891 rfl rfl rfl ?_
      refine sn_aload_n (v := x0) (pc' := 893) dLW_892 rfl rfl rfl ?_
      refine sn_iload_n (v := x3) (pc' := 894) dLW_893 rfl rfl rfl ?_
      refine sn_iconst (v := (1 : Int32)) (pc' := 895) dLW_894 rfl (by decide) ?_
      refine sn_iadd (pc' := 896) dLW_895 rfl ?_
      refine sn_aI (pc' := 897) dLW_896 rfl (fun v137 => ?_)
      refine sn_aload_n (v := x0) (pc' := 898) dLW_897 rfl rfl rfl ?_
      refine sn_iload_n (v := x3) (pc' := 899) dLW_898 rfl rfl rfl ?_
      refine sn_iconst (v := (2 : Int32)) (pc' := 900) dLW_899 rfl (by decide) ?_
      refine sn_iadd (pc' := 901) dLW_900 rfl ?_
      refine sn_aI (pc' := 902) dLW_901 rfl (fun v138 => ?_)
      refine sn_cV (r := x1) (st := []) (As := [.int v137, .int v138]) (st2 := (fun v => .int v :: [])) (pc' := 905) ci_12 (fun t => c_X11_apart G t v137 v138) cw_X11_apart rfl rfl tw1247 tw1249 tw1248 rfl rfl cat_nil rfl (fun _ => rfl) dLW_902 rfl (fun v139 => ?_)
      refine sn_aload_n (v := x2) (pc' := 906) dLW_905 rfl rfl rfl ?_
      refine sn_aload_n (v := x0) (pc' := 907) dLW_906 rfl rfl rfl ?_
      refine sn_iload_n (v := x3) (pc' := 908) dLW_907 rfl rfl rfl ?_
      refine sn_iconst (v := (1 : Int32)) (pc' := 909) dLW_908 rfl (by decide) ?_
      refine sn_iadd (pc' := 910) dLW_909 rfl ?_
      refine sn_aI (pc' := 911) dLW_910 rfl (fun v140 => ?_)
      refine sn_aload_n (v := x0) (pc' := 912) dLW_911 rfl rfl rfl ?_
      refine sn_iload_n (v := x3) (pc' := 913) dLW_912 rfl rfl rfl ?_
      refine sn_iconst (v := (2 : Int32)) (pc' := 914) dLW_913 rfl (by decide) ?_
      refine sn_iadd (pc' := 915) dLW_914 rfl ?_
      refine sn_aI (pc' := 916) dLW_915 rfl (fun v141 => ?_)
      refine sn_cV (r := x2) (st := [.int v139]) (As := [.int v140, .int v141]) (st2 := (fun v => .int v :: [.int v139])) (pc' := 919) ci_13 (fun t => c_X12_apart G t v140 v141) cw_X12_apart rfl rfl tw1745 tw1747 tw1746 rfl rfl (cat_i cat_nil) rfl (fun _ => rfl) dLW_916 rfl (fun v142 => ?_)
      refine sn_ic_eq (pt := 970) (pf := 922) dLW_919 rfl rfl ?_ ?_
      · exact sn_weak (le_s (le_s (le_s (le_s le_e)))) (s_LW_970 G k18 hk18 x0 x1 x2 x3)
      · refine sn_iconst (v := (0 : Int32)) (pc' := 923) dLW_922 rfl (by decide) ?_
        exact sn_iret dLW_923 rfl (by decide)
    refine sn_or (d := (v2 &&& (31 : Int32)) = (24 : Int32)) (fun hc => ?_) (fun hc24 => ?_)
    · refine sn_tsI (pt := 924) (off := 891) dLW_33 (by rw [hc]; decide) (by rw [hc]; decide) (by rw [hc]; rfl) rfl ?_
      refine sn_aload_n (v := x1) (pc' := 925) dLW_924 rfl rfl rfl ?_
      refine sn_aload_n (v := x0) (pc' := 926) dLW_925 rfl rfl rfl ?_
      refine sn_iload_n (v := x3) (pc' := 927) dLW_926 rfl rfl rfl ?_
      refine sn_iconst (v := (1 : Int32)) (pc' := 928) dLW_927 rfl (by decide) ?_
      refine sn_iadd (pc' := 929) dLW_928 rfl ?_
      refine sn_aI (pc' := 930) dLW_929 rfl (fun v143 => ?_)
      refine sn_aload_n (v := x0) (pc' := 931) dLW_930 rfl rfl rfl ?_
      refine sn_iload_n (v := x3) (pc' := 932) dLW_931 rfl rfl rfl ?_
      refine sn_iconst (v := (2 : Int32)) (pc' := 933) dLW_932 rfl (by decide) ?_
      refine sn_iadd (pc' := 934) dLW_933 rfl ?_
      refine sn_aI (pc' := 935) dLW_934 rfl (fun v144 => ?_)
      refine sn_cV (r := x1) (st := []) (As := [.int v143, .int v144]) (st2 := (fun v => .int v :: [])) (pc' := 938) ci_12 (fun t => c_X11_together G t v143 v144) cw_X11_together rfl rfl tw1259 tw1261 tw1260 rfl rfl cat_nil rfl (fun _ => rfl) dLW_935 rfl (fun v145 => ?_)
      refine sn_aload_n (v := x2) (pc' := 939) dLW_938 rfl rfl rfl ?_
      refine sn_aload_n (v := x0) (pc' := 940) dLW_939 rfl rfl rfl ?_
      refine sn_iload_n (v := x3) (pc' := 941) dLW_940 rfl rfl rfl ?_
      refine sn_iconst (v := (1 : Int32)) (pc' := 942) dLW_941 rfl (by decide) ?_
      refine sn_iadd (pc' := 943) dLW_942 rfl ?_
      refine sn_aI (pc' := 944) dLW_943 rfl (fun v146 => ?_)
      refine sn_aload_n (v := x0) (pc' := 945) dLW_944 rfl rfl rfl ?_
      refine sn_iload_n (v := x3) (pc' := 946) dLW_945 rfl rfl rfl ?_
      refine sn_iconst (v := (2 : Int32)) (pc' := 947) dLW_946 rfl (by decide) ?_
      refine sn_iadd (pc' := 948) dLW_947 rfl ?_
      refine sn_aI (pc' := 949) dLW_948 rfl (fun v147 => ?_)
      refine sn_cV (r := x2) (st := [.int v145]) (As := [.int v146, .int v147]) (st2 := (fun v => .int v :: [.int v145])) (pc' := 952) ci_13 (fun t => c_X12_together G t v146 v147) cw_X12_together rfl rfl tw1757 tw1759 tw1758 rfl rfl (cat_i cat_nil) rfl (fun _ => rfl) dLW_949 rfl (fun v148 => ?_)
      refine sn_ic_eq (pt := 970) (pf := 955) dLW_952 rfl rfl ?_ ?_
      · exact sn_weak (le_s (le_s (le_s (le_s le_e)))) (s_LW_970 G k18 hk18 x0 x1 x2 x3)
      · refine sn_iconst (v := (0 : Int32)) (pc' := 956) dLW_955 rfl (by decide) ?_
        exact sn_iret dLW_956 rfl (by decide)
    refine sn_or (d := (v2 &&& (31 : Int32)) = (25 : Int32)) (fun hc => ?_) (fun hc25 => ?_)
    · refine sn_tsI (pt := 957) (off := 924) dLW_33 (by rw [hc]; decide) (by rw [hc]; decide) (by rw [hc]; rfl) rfl ?_
      refine sn_aload_n (v := x1) (pc' := 958) dLW_957 rfl rfl rfl ?_
      refine sn_cV (r := x1) (st := []) (As := []) (st2 := (fun v => .int v :: [])) (pc' := 961) ci_12 (fun t => c_X11_status G t ) cw_X11_status rfl rfl tw1268 tw1270 tw1269 rfl rfl cat_nil rfl (fun _ => rfl) dLW_958 rfl (fun v149 => ?_)
      refine sn_aload_n (v := x2) (pc' := 962) dLW_961 rfl rfl rfl ?_
      refine sn_cV (r := x2) (st := [.int v149]) (As := []) (st2 := (fun v => .int v :: [.int v149])) (pc' := 965) ci_13 (fun t => c_X12_status G t ) cw_X12_status rfl rfl tw1761 tw1763 tw1762 rfl rfl (cat_i cat_nil) rfl (fun _ => rfl) dLW_962 rfl (fun v150 => ?_)
      refine sn_ic_eq (pt := 970) (pf := 968) dLW_965 rfl rfl ?_ ?_
      · exact sn_weak (le_s (le_s (le_s (le_s le_e)))) (s_LW_970 G k18 hk18 x0 x1 x2 x3)
      · refine sn_iconst (v := (0 : Int32)) (pc' := 969) dLW_968 rfl (by decide) ?_
        exact sn_iret dLW_969 rfl (by decide)
    refine sn_tsO (pt := 970) dLW_33 (by
      have h9 := ts_out 0 26 (by decide) (fun j h1 h2 => by
        rcases (show j = 0 ∨ j = 1 ∨ j = 2 ∨ j = 3 ∨ j = 4 ∨ j = 5 ∨ j = 6 ∨ j = 7 ∨ j = 8 ∨ j = 9 ∨ j = 10 ∨ j = 11 ∨ j = 12 ∨ j = 13 ∨ j = 14 ∨ j = 15 ∨ j = 16 ∨ j = 17 ∨ j = 18 ∨ j = 19 ∨ j = 20 ∨ j = 21 ∨ j = 22 ∨ j = 23 ∨ j = 24 ∨ j = 25 by omega) with e | e | e | e | e | e | e | e | e | e | e | e | e | e | e | e | e | e | e | e | e | e | e | e | e | e
        · subst e; exact hc0
        · subst e; exact hc1
        · subst e; exact hc2
        · subst e; exact hc3
        · subst e; exact hc4
        · subst e; exact hc5
        · subst e; exact hc6
        · subst e; exact hc7
        · subst e; exact hc8
        · subst e; exact hc9
        · subst e; exact hc10
        · subst e; exact hc11
        · subst e; exact hc12
        · subst e; exact hc13
        · subst e; exact hc14
        · subst e; exact hc15
        · subst e; exact hc16
        · subst e; exact hc17
        · subst e; exact hc18
        · subst e; exact hc19
        · subst e; exact hc20
        · subst e; exact hc21
        · subst e; exact hc22
        · subst e; exact hc23
        · subst e; exact hc24
        · subst e; exact hc25
        )
      omega) rfl ?_
    exact sn_weak (le_s (le_s (le_s (le_s le_e)))) (s_LW_970 G k18 hk18 x0 x1 x2 x3)
set_option maxRecDepth 100000 in
set_option maxHeartbeats 4000000 in
theorem s_LW_18 (G : GG)   : ∀ (n : Nat) (x0 : Option Nat) (x1 : Option Nat) (x2 : Option Nat) (x3 : Int32), Sn G yLW cLW 4 (some FieldType.boolean) 18 734 (fun v : Int32 => some (.int v)) (LW_18  n x0 x1 x2 x3) 18 [some (va_rf x0), some (va_rf x1), some (va_rf x2), some (.int x3)] [] := by
  intro n
  induction n with
  | zero => intro x0 x1 x2 x3; exact sn_mf
  | succ n ih => intro x0 x1 x2 x3; exact s_LW_18_st G   (LW_18  n) ih x0 x1 x2 x3
set_option maxRecDepth 100000 in
set_option maxHeartbeats 4000000 in
theorem s_LW (G : GG) (a0 : Option Nat) : Sn G yLW cLW 4 (some FieldType.boolean) 18 734 (fun v : Int32 => some (.int v)) (LW a0) 0 [some (va_rf a0), none, none, none] [] := by
  unfold LW
  refine sn_nO (pc' := 3) ci_12 tw27 tw28 tw1 (by decide +kernel) dLW_0 rfl (fun v1 => ?_)
  refine sn_dup (pc' := 4) dLW_3 rfl (cat_rf _) ?_
  refine sn_cI (r := v1) (st := [va_rf v1]) (As := []) (st2 := (fun _ => [va_rf v1])) (pc' := 7) (fun t => c_X11_init G t ) cw_X11_init rfl rfl (Or.inl tw29) tw30 rfl rfl rfl (cat_q cat_nil) rfl (fun _ => rfl) dLW_4 rfl (fun _ => ?_)
  refine sn_astore_n (v := v1) (L' := [some (va_rf a0), some (va_rf v1), none, none]) (pc' := 8) dLW_7 rfl rfl rfl rfl ?_
  refine sn_nO (pc' := 11) ci_13 tw1272 tw1273 tw15 (by decide +kernel) dLW_8 rfl (fun v2 => ?_)
  refine sn_dup (pc' := 12) dLW_11 rfl (cat_rf _) ?_
  refine sn_cI (r := v2) (st := [va_rf v2]) (As := []) (st2 := (fun _ => [va_rf v2])) (pc' := 15) (fun t => c_X12_init G t ) cw_X12_init rfl rfl (Or.inl tw1274) tw1275 rfl rfl rfl (cat_q cat_nil) rfl (fun _ => rfl) dLW_12 rfl (fun _ => ?_)
  refine sn_astore_n (v := v2) (L' := [some (va_rf a0), some (va_rf v1), some (va_rf v2), none]) (pc' := 16) dLW_15 rfl rfl rfl rfl ?_
  refine sn_iconst (v := (0 : Int32)) (pc' := 17) dLW_16 rfl (by decide) ?_
  refine sn_istore_n (v := (0 : Int32)) (L' := [some (va_rf a0), some (va_rf v1), some (va_rf v2), some (.int (0 : Int32))]) (pc' := 18) dLW_17 rfl rfl rfl rfl ?_
  exact sn_weak (le_s (le_s (le_s (le_s le_e)))) (s_LW_18 G LFU a0 v1 v2 (0 : Int32))
