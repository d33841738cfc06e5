set_option maxHeartbeats 4000000 in
theorem jM_edge_eq (L : Nat) (a1 : Int) (a2 : Int) (a3 : Int) (g : AMem) : jM_edge L a1 a2 a3 g = (jM_isBlock L a1 g).bind (fun q1 => if q1.1 = 0 then ((jM_bad L q1.2).bind (fun q3 => some (q3.1, q3.2))) else ((jM_isBlock L a2 q1.2).bind (fun q4 => if q4.1 = 0 then ((jM_bad L q4.2).bind (fun q6 => some (q6.1, q6.2))) else ((jM_in L a3 0 99 q4.2).bind (fun q7 => if q7.1 ≠ 0 then (if q7.2 137 2 ≠ 16 then ((jM_newEdge L a1 a2 a3 q7.2).bind (fun q10 => some (q10.1, q10.2))) else ((jM_full L q7.2).bind (fun q11 => some (q11.1, q11.2)))) else ((jM_bad L q7.2).bind (fun q12 => some (q12.1, q12.2)))))))) := by
  unfold jM_edge
  refine q_s (pc' := 1) (ls' := [vR 137, vI a1, vI a2, vI a3]) (st' := [vR 137]) (g' := g) k157_0 rfl rfl ?_
  refine q_s (pc' := 2) (ls' := [vR 137, vI a1, vI a2, vI a3]) (st' := [vI a1, vR 137]) (g' := g) k157_1 rfl rfl ?_
  refine q_callI (ls0 := [vR 137, vI a1]) (rest := []) (pc' := 5) rfl k157_2 rfl (hy4 rfl rfl rfl rfl) rfl rfl hq_145 rfl (fun q1 => ?_)
  refine q_if (P := q1.1 = 0) (t := 26) (pc' := 8) k157_5 Iff.rfl rfl rfl (fun h2 => ?_) (fun h2 => ?_)
  · refine q_s (pc' := 27) (ls' := [vR 137, vI a1, vI a2, vI a3]) (st' := [vR 137]) (g' := q1.2) k157_26 rfl rfl ?_
    refine q_callI (ls0 := [vR 137]) (rest := []) (pc' := 30) rfl k157_27 rfl (hy4 rfl rfl rfl rfl) rfl rfl hq_135 rfl (fun q3 => ?_)
    exact q_e k157_30 rfl rfl rfl
  · refine q_s (pc' := 9) (ls' := [vR 137, vI a1, vI a2, vI a3]) (st' := [vR 137]) (g' := q1.2) k157_8 rfl rfl ?_
    refine q_s (pc' := 10) (ls' := [vR 137, vI a1, vI a2, vI a3]) (st' := [vI a2, vR 137]) (g' := q1.2) k157_9 rfl rfl ?_
    refine q_callI (ls0 := [vR 137, vI a2]) (rest := []) (pc' := 13) rfl k157_10 rfl (hy4 rfl rfl rfl rfl) rfl rfl hq_145 rfl (fun q4 => ?_)
    refine q_if (P := q4.1 = 0) (t := 26) (pc' := 16) k157_13 Iff.rfl rfl rfl (fun h5 => ?_) (fun h5 => ?_)
    · refine q_s (pc' := 27) (ls' := [vR 137, vI a1, vI a2, vI a3]) (st' := [vR 137]) (g' := q4.2) k157_26 rfl rfl ?_
      refine q_callI (ls0 := [vR 137]) (rest := []) (pc' := 30) rfl k157_27 rfl (hy4 rfl rfl rfl rfl) rfl rfl hq_135 rfl (fun q6 => ?_)
      exact q_e k157_30 rfl rfl rfl
    · refine q_s (pc' := 17) (ls' := [vR 137, vI a1, vI a2, vI a3]) (st' := [vI a3]) (g' := q4.2) k157_16 rfl rfl ?_
      refine q_s (pc' := 18) (ls' := [vR 137, vI a1, vI a2, vI a3]) (st' := [vI 0, vI a3]) (g' := q4.2) k157_17 rfl rfl ?_
      refine q_s (pc' := 20) (ls' := [vR 137, vI a1, vI a2, vI a3]) (st' := [vI 99, vI 0, vI a3]) (g' := q4.2) k157_18 rfl rfl ?_
      refine q_callI (ls0 := [vI a3, vI 0, vI 99]) (rest := []) (pc' := 23) rfl k157_20 rfl (hy4 rfl rfl rfl rfl) rfl rfl hq_138 rfl (fun q7 => ?_)
      refine q_if (P := q7.1 ≠ 0) (t := 31) (pc' := 26) k157_23 Iff.rfl rfl rfl (fun h8 => ?_) (fun h8 => ?_)
      · refine q_s (pc' := 32) (ls' := [vR 137, vI a1, vI a2, vI a3]) (st' := [vR 137]) (g' := q7.2) k157_31 rfl rfl ?_
        refine q_getI (w := 2) (pc' := 35) k157_32 rfl rfl rfl rfl ?_
        refine q_s (pc' := 37) (ls' := [vR 137, vI a1, vI a2, vI a3]) (st' := [vI 16, vI (q7.2 137 2)]) (g' := q7.2) k157_35 rfl rfl ?_
        refine q_ic (P := q7.2 137 2 ≠ 16) (t := 47) (pc' := 40) k157_37 Iff.rfl rfl rfl (fun h9 => ?_) (fun h9 => ?_)
        · refine q_s (pc' := 48) (ls' := [vR 137, vI a1, vI a2, vI a3]) (st' := [vR 137]) (g' := q7.2) k157_47 rfl rfl ?_
          refine q_s (pc' := 49) (ls' := [vR 137, vI a1, vI a2, vI a3]) (st' := [vI a1, vR 137]) (g' := q7.2) k157_48 rfl rfl ?_
          refine q_s (pc' := 50) (ls' := [vR 137, vI a1, vI a2, vI a3]) (st' := [vI a2, vI a1, vR 137]) (g' := q7.2) k157_49 rfl rfl ?_
          refine q_s (pc' := 51) (ls' := [vR 137, vI a1, vI a2, vI a3]) (st' := [vI a3, vI a2, vI a1, vR 137]) (g' := q7.2) k157_50 rfl rfl ?_
          refine q_callI (ls0 := [vR 137, vI a1, vI a2, vI a3, vU, vU]) (rest := []) (pc' := 54) rfl k157_51 rfl (hy4 rfl rfl rfl rfl) rfl rfl hq_156 rfl (fun q10 => ?_)
          exact q_e k157_54 rfl rfl rfl
        · refine q_s (pc' := 41) (ls' := [vR 137, vI a1, vI a2, vI a3]) (st' := [vR 137]) (g' := q7.2) k157_40 rfl rfl ?_
          refine q_callI (ls0 := [vR 137]) (rest := []) (pc' := 44) rfl k157_41 rfl (hy4 rfl rfl rfl rfl) rfl rfl hq_137 rfl (fun q11 => ?_)
          refine q_s (pc' := 54) (ls' := [vR 137, vI a1, vI a2, vI a3]) (st' := [vI q11.1]) (g' := q11.2) k157_44 rfl rfl ?_
          exact q_e k157_54 rfl rfl rfl
      · refine q_s (pc' := 27) (ls' := [vR 137, vI a1, vI a2, vI a3]) (st' := [vR 137]) (g' := q7.2) k157_26 rfl rfl ?_
        refine q_callI (ls0 := [vR 137]) (rest := []) (pc' := 30) rfl k157_27 rfl (hy4 rfl rfl rfl rfl) rfl rfl hq_135 rfl (fun q12 => ?_)
        exact q_e k157_30 rfl rfl rfl
set_option maxHeartbeats 4000000 in
theorem jM_mayBeGiven_eq (L : Nat) (a1 : Int) (a2 : Int) (a3 : Int) (g : AMem) : jM_mayBeGiven L a1 a2 a3 g = if 0 ≤ a3 then ((jM_isRegion L a3 g).bind (fun q2 => if q2.1 = 0 then (some (0, q2.2)) else ((jM_widthOf L a3 q2.2).bind (fun q4 => (jM_parameterOf L a1 a2 q4.2).bind (fun q5 => (jM_widthOf L q5.1 q5.2).bind (fun q6 => if q4.1 ≠ q6.1 then (some (0, q6.2)) else (some (1, q6.2)))))))) else (if a3 < (-100) then (some (0, g)) else (some (1, g))) := by
  unfold jM_mayBeGiven
  refine q_s (pc' := 1) (ls' := [vR 137, vI a1, vI a2, vI a3]) (st' := [vI a3]) (g' := g) k158_0 rfl rfl ?_
  refine q_if (P := 0 ≤ a3) (t := 18) (pc' := 4) k158_1 Iff.rfl rfl rfl (fun h1 => ?_) (fun h1 => ?_)
  · refine q_s (pc' := 19) (ls' := [vR 137, vI a1, vI a2, vI a3]) (st' := [vI a3]) (g' := g) k158_18 rfl rfl ?_
    refine q_callI (ls0 := [vI a3]) (rest := []) (pc' := 22) rfl k158_19 rfl (hy4 rfl rfl rfl rfl) rfl rfl hq_142 rfl (fun q2 => ?_)
    refine q_if (P := q2.1 = 0) (t := 45) (pc' := 25) k158_22 Iff.rfl rfl rfl (fun h3 => ?_) (fun h3 => ?_)
    · refine q_s (pc' := 46) (ls' := [vR 137, vI a1, vI a2, vI a3]) (st' := [vI 0]) (g' := q2.2) k158_45 rfl rfl ?_
      exact q_e k158_46 rfl rfl rfl
    · refine q_s (pc' := 26) (ls' := [vR 137, vI a1, vI a2, vI a3]) (st' := [vI a3]) (g' := q2.2) k158_25 rfl rfl ?_
      refine q_callI (ls0 := [vI a3]) (rest := []) (pc' := 29) rfl k158_26 rfl (hy4 rfl rfl rfl rfl) rfl rfl hq_139 rfl (fun q4 => ?_)
      refine q_s (pc' := 30) (ls' := [vR 137, vI a1, vI a2, vI a3]) (st' := [vR 137, vI q4.1]) (g' := q4.2) k158_29 rfl rfl ?_
      refine q_s (pc' := 31) (ls' := [vR 137, vI a1, vI a2, vI a3]) (st' := [vI a1, vR 137, vI q4.1]) (g' := q4.2) k158_30 rfl rfl ?_
      refine q_s (pc' := 32) (ls' := [vR 137, vI a1, vI a2, vI a3]) (st' := [vI a2, vI a1, vR 137, vI q4.1]) (g' := q4.2) k158_31 rfl rfl ?_
      refine q_callI (ls0 := [vR 137, vI a1, vI a2]) (rest := [vI q4.1]) (pc' := 35) rfl k158_32 rfl (hy4 rfl rfl rfl rfl) rfl rfl hq_147 rfl (fun q5 => ?_)
      refine q_callI (ls0 := [vI q5.1]) (rest := [vI q4.1]) (pc' := 38) rfl k158_35 rfl (hy4 rfl rfl rfl rfl) rfl rfl hq_139 rfl (fun q6 => ?_)
      refine q_ic (P := q4.1 ≠ q6.1) (t := 45) (pc' := 41) k158_38 Iff.rfl rfl rfl (fun h7 => ?_) (fun h7 => ?_)
      · refine q_s (pc' := 46) (ls' := [vR 137, vI a1, vI a2, vI a3]) (st' := [vI 0]) (g' := q6.2) k158_45 rfl rfl ?_
        exact q_e k158_46 rfl rfl rfl
      · refine q_s (pc' := 42) (ls' := [vR 137, vI a1, vI a2, vI a3]) (st' := [vI 1]) (g' := q6.2) k158_41 rfl rfl ?_
        refine q_s (pc' := 46) (ls' := [vR 137, vI a1, vI a2, vI a3]) (st' := [vI 1]) (g' := q6.2) k158_42 rfl rfl ?_
        exact q_e k158_46 rfl rfl rfl
  · refine q_s (pc' := 5) (ls' := [vR 137, vI a1, vI a2, vI a3]) (st' := [vI a3]) (g' := g) k158_4 rfl rfl ?_
    refine q_s (pc' := 7) (ls' := [vR 137, vI a1, vI a2, vI a3]) (st' := [vI (-100), vI a3]) (g' := g) k158_5 rfl rfl ?_
    refine q_ic (P := a3 < (-100)) (t := 14) (pc' := 10) k158_7 Iff.rfl rfl rfl (fun h8 => ?_) (fun h8 => ?_)
    · refine q_s (pc' := 15) (ls' := [vR 137, vI a1, vI a2, vI a3]) (st' := [vI 0]) (g' := g) k158_14 rfl rfl ?_
      refine q_s (pc' := 46) (ls' := [vR 137, vI a1, vI a2, vI a3]) (st' := [vI 0]) (g' := g) k158_15 rfl rfl ?_
      exact q_e k158_46 rfl rfl rfl
    · refine q_s (pc' := 11) (ls' := [vR 137, vI a1, vI a2, vI a3]) (st' := [vI 1]) (g' := g) k158_10 rfl rfl ?_
      refine q_s (pc' := 46) (ls' := [vR 137, vI a1, vI a2, vI a3]) (st' := [vI 1]) (g' := g) k158_11 rfl rfl ?_
      exact q_e k158_46 rfl rfl rfl
set_option maxHeartbeats 4000000 in
theorem jM_argument_eq (L : Nat) (a1 : Int) (a2 : Int) (a3 : Int) (g : AMem) : jM_argument L a1 a2 a3 g = (jM_isEdge L a1 g).bind (fun q1 => if q1.1 = 0 then ((jM_bad L q1.2).bind (fun q3 => some (q3.1, q3.2))) else ((jM_manyOf L a1 q1.2).bind (fun q4 => (jM_in L a2 0 (iw (q4.1 - 1)) q4.2).bind (fun q5 => if q5.1 = 0 then ((jM_bad L q5.2).bind (fun q7 => some (q7.1, q7.2))) else ((jM_mayBeGiven L a1 a2 a3 q5.2).bind (fun q8 => if q8.1 ≠ 0 then ((jM_givenOf L a1 a2 q8.2).bind (fun q10 => if 0 ≤ iw ((iw (6 * a1)) + a2) ∧ iw ((iw (6 * a1)) + a2) < 96 then (some (q10.1, up q10.2 144 (iw ((iw (6 * a1)) + a2)) a3)) else none)) else ((jM_bad L q8.2).bind (fun q12 => some (q12.1, q12.2))))))))) := by
  unfold jM_argument
  refine q_s (pc' := 1) (ls' := [vR 137, vI a1, vI a2, vI a3, vU]) (st' := [vR 137]) (g' := g) k159_0 rfl rfl ?_
  refine q_s (pc' := 2) (ls' := [vR 137, vI a1, vI a2, vI a3, vU]) (st' := [vI a1, vR 137]) (g' := g) k159_1 rfl rfl ?_
  refine q_callI (ls0 := [vR 137, vI a1]) (rest := []) (pc' := 5) rfl k159_2 rfl (hy4 rfl rfl rfl rfl) rfl rfl hq_146 rfl (fun q1 => ?_)
  refine q_if (P := q1.1 = 0) (t := 33) (pc' := 8) k159_5 Iff.rfl rfl rfl (fun h2 => ?_) (fun h2 => ?_)
  · refine q_s (pc' := 34) (ls' := [vR 137, vI a1, vI a2, vI a3, vU]) (st' := [vR 137]) (g' := q1.2) k159_33 rfl rfl ?_
    refine q_callI (ls0 := [vR 137]) (rest := []) (pc' := 37) rfl k159_34 rfl (hy4 rfl rfl rfl rfl) rfl rfl hq_135 rfl (fun q3 => ?_)
    exact q_e k159_37 rfl rfl rfl
  · refine q_s (pc' := 9) (ls' := [vR 137, vI a1, vI a2, vI a3, vU]) (st' := [vI a2]) (g' := q1.2) k159_8 rfl rfl ?_
    refine q_s (pc' := 10) (ls' := [vR 137, vI a1, vI a2, vI a3, vU]) (st' := [vI 0, vI a2]) (g' := q1.2) k159_9 rfl rfl ?_
    refine q_s (pc' := 11) (ls' := [vR 137, vI a1, vI a2, vI a3, vU]) (st' := [vR 137, vI 0, vI a2]) (g' := q1.2) k159_10 rfl rfl ?_
    refine q_s (pc' := 12) (ls' := [vR 137, vI a1, vI a2, vI a3, vU]) (st' := [vI a1, vR 137, vI 0, vI a2]) (g' := q1.2) k159_11 rfl rfl ?_
    refine q_callI (ls0 := [vR 137, vI a1]) (rest := [vI 0, vI a2]) (pc' := 15) rfl k159_12 rfl (hy4 rfl rfl rfl rfl) rfl rfl hq_148 rfl (fun q4 => ?_)
    refine q_s (pc' := 16) (ls' := [vR 137, vI a1, vI a2, vI a3, vU]) (st' := [vI 1, vI q4.1, vI 0, vI a2]) (g' := q4.2) k159_15 rfl rfl ?_
    refine q_s (pc' := 17) (ls' := [vR 137, vI a1, vI a2, vI a3, vU]) (st' := [vI (iw (q4.1 - 1)), vI 0, vI a2]) (g' := q4.2) k159_16 rfl rfl ?_
    refine q_callI (ls0 := [vI a2, vI 0, vI (iw (q4.1 - 1))]) (rest := []) (pc' := 20) rfl k159_17 rfl (hy4 rfl rfl rfl rfl) rfl rfl hq_138 rfl (fun q5 => ?_)
    refine q_if (P := q5.1 = 0) (t := 33) (pc' := 23) k159_20 Iff.rfl rfl rfl (fun h6 => ?_) (fun h6 => ?_)
    · refine q_s (pc' := 34) (ls' := [vR 137, vI a1, vI a2, vI a3, vU]) (st' := [vR 137]) (g' := q5.2) k159_33 rfl rfl ?_
      refine q_callI (ls0 := [vR 137]) (rest := []) (pc' := 37) rfl k159_34 rfl (hy4 rfl rfl rfl rfl) rfl rfl hq_135 rfl (fun q7 => ?_)
      exact q_e k159_37 rfl rfl rfl
    · refine q_s (pc' := 24) (ls' := [vR 137, vI a1, vI a2, vI a3, vU]) (st' := [vR 137]) (g' := q5.2) k159_23 rfl rfl ?_
      refine q_s (pc' := 25) (ls' := [vR 137, vI a1, vI a2, vI a3, vU]) (st' := [vI a1, vR 137]) (g' := q5.2) k159_24 rfl rfl ?_
      refine q_s (pc' := 26) (ls' := [vR 137, vI a1, vI a2, vI a3, vU]) (st' := [vI a2, vI a1, vR 137]) (g' := q5.2) k159_25 rfl rfl ?_
      refine q_s (pc' := 27) (ls' := [vR 137, vI a1, vI a2, vI a3, vU]) (st' := [vI a3, vI a2, vI a1, vR 137]) (g' := q5.2) k159_26 rfl rfl ?_
      refine q_callI (ls0 := [vR 137, vI a1, vI a2, vI a3]) (rest := []) (pc' := 30) rfl k159_27 rfl (hy4 rfl rfl rfl rfl) rfl rfl hq_158 rfl (fun q8 => ?_)
      refine q_if (P := q8.1 ≠ 0) (t := 38) (pc' := 33) k159_30 Iff.rfl rfl rfl (fun h9 => ?_) (fun h9 => ?_)
      · refine q_s (pc' := 39) (ls' := [vR 137, vI a1, vI a2, vI a3, vU]) (st' := [vR 137]) (g' := q8.2) k159_38 rfl rfl ?_
        refine q_s (pc' := 40) (ls' := [vR 137, vI a1, vI a2, vI a3, vU]) (st' := [vI a1, vR 137]) (g' := q8.2) k159_39 rfl rfl ?_
        refine q_s (pc' := 41) (ls' := [vR 137, vI a1, vI a2, vI a3, vU]) (st' := [vI a2, vI a1, vR 137]) (g' := q8.2) k159_40 rfl rfl ?_
        refine q_callI (ls0 := [vR 137, vI a1, vI a2]) (rest := []) (pc' := 44) rfl k159_41 rfl (hy4 rfl rfl rfl rfl) rfl rfl hq_149 rfl (fun q10 => ?_)
        refine q_s (pc' := 46) (ls' := [vR 137, vI a1, vI a2, vI a3, vI q10.1]) (st' := []) (g' := q10.2) k159_44 rfl rfl ?_
        refine q_s (pc' := 47) (ls' := [vR 137, vI a1, vI a2, vI a3, vI q10.1]) (st' := [vR 137]) (g' := q10.2) k159_46 rfl rfl ?_
        refine q_getF (r := 144) (pc' := 50) k159_47 rfl rfl rfl rfl ?_
        refine q_s (pc' := 52) (ls' := [vR 137, vI a1, vI a2, vI a3, vI q10.1]) (st' := [vI 6, vR 144]) (g' := q10.2) k159_50 rfl rfl ?_
        refine q_s (pc' := 53) (ls' := [vR 137, vI a1, vI a2, vI a3, vI q10.1]) (st' := [vI a1, vI 6, vR 144]) (g' := q10.2) k159_52 rfl rfl ?_
        refine q_s (pc' := 54) (ls' := [vR 137, vI a1, vI a2, vI a3, vI q10.1]) (st' := [vI (iw (6 * a1)), vR 144]) (g' := q10.2) k159_53 rfl rfl ?_
        refine q_s (pc' := 55) (ls' := [vR 137, vI a1, vI a2, vI a3, vI q10.1]) (st' := [vI a2, vI (iw (6 * a1)), vR 144]) (g' := q10.2) k159_54 rfl rfl ?_
        refine q_s (pc' := 56) (ls' := [vR 137, vI a1, vI a2, vI a3, vI q10.1]) (st' := [vI (iw ((iw (6 * a1)) + a2)), vR 144]) (g' := q10.2) k159_55 rfl rfl ?_
        refine q_s (pc' := 57) (ls' := [vR 137, vI a1, vI a2, vI a3, vI q10.1]) (st' := [vI a3, vI (iw ((iw (6 * a1)) + a2)), vR 144]) (g' := q10.2) k159_56 rfl rfl ?_
        refine q_iast (n := 96) (pc' := 58) rfl k159_57 rfl (by decide) rfl (fun h11 => ?_)
        refine q_s (pc' := 60) (ls' := [vR 137, vI a1, vI a2, vI a3, vI q10.1]) (st' := [vI q10.1]) (g' := up q10.2 144 (iw ((iw (6 * a1)) + a2)) a3) k159_58 rfl rfl ?_
        exact q_e k159_60 rfl rfl rfl
      · refine q_s (pc' := 34) (ls' := [vR 137, vI a1, vI a2, vI a3, vU]) (st' := [vR 137]) (g' := q8.2) k159_33 rfl rfl ?_
        refine q_callI (ls0 := [vR 137]) (rest := []) (pc' := 37) rfl k159_34 rfl (hy4 rfl rfl rfl rfl) rfl rfl hq_135 rfl (fun q12 => ?_)
        exact q_e k159_37 rfl rfl rfl
set_option maxHeartbeats 4000000 in
theorem jM_weight_eq (L : Nat) (a1 : Int) (a2 : Int) (g : AMem) : jM_weight L a1 a2 g = (jM_isEdge L a1 g).bind (fun q1 => if q1.1 = 0 then ((jM_bad L q1.2).bind (fun q3 => some (q3.1, q3.2))) else ((jM_in L a2 0 99 q1.2).bind (fun q4 => if q4.1 ≠ 0 then (if 0 ≤ a1 ∧ a1 < 16 then (if 0 ≤ a1 ∧ a1 < 16 then (some (q4.2 143 a1, up q4.2 143 a1 a2)) else none) else none) else ((jM_bad L q4.2).bind (fun q8 => some (q8.1, q8.2)))))) := by
  unfold jM_weight
  refine q_s (pc' := 1) (ls' := [vR 137, vI a1, vI a2, vU]) (st' := [vR 137]) (g' := g) k160_0 rfl rfl ?_
  refine q_s (pc' := 2) (ls' := [vR 137, vI a1, vI a2, vU]) (st' := [vI a1, vR 137]) (g' := g) k160_1 rfl rfl ?_
  refine q_callI (ls0 := [vR 137, vI a1]) (rest := []) (pc' := 5) rfl k160_2 rfl (hy4 rfl rfl rfl rfl) rfl rfl hq_146 rfl (fun q1 => ?_)
  refine q_if (P := q1.1 = 0) (t := 18) (pc' := 8) k160_5 Iff.rfl rfl rfl (fun h2 => ?_) (fun h2 => ?_)
  · refine q_s (pc' := 19) (ls' := [vR 137, vI a1, vI a2, vU]) (st' := [vR 137]) (g' := q1.2) k160_18 rfl rfl ?_
    refine q_callI (ls0 := [vR 137]) (rest := []) (pc' := 22) rfl k160_19 rfl (hy4 rfl rfl rfl rfl) rfl rfl hq_135 rfl (fun q3 => ?_)
    exact q_e k160_22 rfl rfl rfl
  · refine q_s (pc' := 9) (ls' := [vR 137, vI a1, vI a2, vU]) (st' := [vI a2]) (g' := q1.2) k160_8 rfl rfl ?_
    refine q_s (pc' := 10) (ls' := [vR 137, vI a1, vI a2, vU]) (st' := [vI 0, vI a2]) (g' := q1.2) k160_9 rfl rfl ?_
    refine q_s (pc' := 12) (ls' := [vR 137, vI a1, vI a2, vU]) (st' := [vI 99, vI 0, vI a2]) (g' := q1.2) k160_10 rfl rfl ?_
    refine q_callI (ls0 := [vI a2, vI 0, vI 99]) (rest := []) (pc' := 15) rfl k160_12 rfl (hy4 rfl rfl rfl rfl) rfl rfl hq_138 rfl (fun q4 => ?_)
    refine q_if (P := q4.1 ≠ 0) (t := 23) (pc' := 18) k160_15 Iff.rfl rfl rfl (fun h5 => ?_) (fun h5 => ?_)
    · refine q_s (pc' := 24) (ls' := [vR 137, vI a1, vI a2, vU]) (st' := [vR 137]) (g' := q4.2) k160_23 rfl rfl ?_
      refine q_getF (r := 143) (pc' := 27) k160_24 rfl rfl rfl rfl ?_
      refine q_s (pc' := 28) (ls' := [vR 137, vI a1, vI a2, vU]) (st' := [vI a1, vR 143]) (g' := q4.2) k160_27 rfl rfl ?_
      refine q_iald (n := 16) (pc' := 29) rfl k160_28 rfl rfl (fun h6 => ?_)
      refine q_s (pc' := 30) (ls' := [vR 137, vI a1, vI a2, vI (q4.2 143 a1)]) (st' := []) (g' := q4.2) k160_29 rfl rfl ?_
      refine q_s (pc' := 31) (ls' := [vR 137, vI a1, vI a2, vI (q4.2 143 a1)]) (st' := [vR 137]) (g' := q4.2) k160_30 rfl rfl ?_
      refine q_getF (r := 143) (pc' := 34) k160_31 rfl rfl rfl rfl ?_
      refine q_s (pc' := 35) (ls' := [vR 137, vI a1, vI a2, vI (q4.2 143 a1)]) (st' := [vI a1, vR 143]) (g' := q4.2) k160_34 rfl rfl ?_
      refine q_s (pc' := 36) (ls' := [vR 137, vI a1, vI a2, vI (q4.2 143 a1)]) (st' := [vI a2, vI a1, vR 143]) (g' := q4.2) k160_35 rfl rfl ?_
      refine q_iast (n := 16) (pc' := 37) rfl k160_36 rfl (by decide) rfl (fun h7 => ?_)
      refine q_s (pc' := 38) (ls' := [vR 137, vI a1, vI a2, vI (q4.2 143 a1)]) (st' := [vI (q4.2 143 a1)]) (g' := up q4.2 143 a1 a2) k160_37 rfl rfl ?_
      exact q_e k160_38 rfl rfl rfl
    · refine q_s (pc' := 19) (ls' := [vR 137, vI a1, vI a2, vU]) (st' := [vR 137]) (g' := q4.2) k160_18 rfl rfl ?_
      refine q_callI (ls0 := [vR 137]) (rest := []) (pc' := 22) rfl k160_19 rfl (hy4 rfl rfl rfl rfl) rfl rfl hq_135 rfl (fun q8 => ?_)
      exact q_e k160_22 rfl rfl rfl
set_option maxHeartbeats 4000000 in
theorem jM_machine_eq (L : Nat) (a1 : Int) (g : AMem) : jM_machine L a1 g = (jM_in L a1 0 4 g).bind (fun q1 => if q1.1 ≠ 0 then (some (q1.2 137 3, up q1.2 137 3 a1)) else ((jM_bad L q1.2).bind (fun q3 => some (q3.1, q3.2)))) := by
  unfold jM_machine
  refine q_s (pc' := 1) (ls' := [vR 137, vI a1, vU]) (st' := [vI a1]) (g' := g) k161_0 rfl rfl ?_
  refine q_s (pc' := 2) (ls' := [vR 137, vI a1, vU]) (st' := [vI 0, vI a1]) (g' := g) k161_1 rfl rfl ?_
  refine q_s (pc' := 3) (ls' := [vR 137, vI a1, vU]) (st' := [vI 4, vI 0, vI a1]) (g' := g) k161_2 rfl rfl ?_
  refine q_callI (ls0 := [vI a1, vI 0, vI 4]) (rest := []) (pc' := 6) rfl k161_3 rfl (hy4 rfl rfl rfl rfl) rfl rfl hq_138 rfl (fun q1 => ?_)
  refine q_if (P := q1.1 ≠ 0) (t := 14) (pc' := 9) k161_6 Iff.rfl rfl rfl (fun h2 => ?_) (fun h2 => ?_)
  · refine q_s (pc' := 15) (ls' := [vR 137, vI a1, vU]) (st' := [vR 137]) (g' := q1.2) k161_14 rfl rfl ?_
    refine q_getI (w := 3) (pc' := 18) k161_15 rfl rfl rfl rfl ?_
    refine q_s (pc' := 19) (ls' := [vR 137, vI a1, vI (q1.2 137 3)]) (st' := []) (g' := q1.2) k161_18 rfl rfl ?_
    refine q_s (pc' := 20) (ls' := [vR 137, vI a1, vI (q1.2 137 3)]) (st' := [vR 137]) (g' := q1.2) k161_19 rfl rfl ?_
    refine q_s (pc' := 21) (ls' := [vR 137, vI a1, vI (q1.2 137 3)]) (st' := [vI a1, vR 137]) (g' := q1.2) k161_20 rfl rfl ?_
    refine q_putI (w := 3) (pc' := 24) k161_21 rfl rfl rfl rfl ?_
    refine q_s (pc' := 25) (ls' := [vR 137, vI a1, vI (q1.2 137 3)]) (st' := [vI (q1.2 137 3)]) (g' := up q1.2 137 3 a1) k161_24 rfl rfl ?_
    exact q_e k161_25 rfl rfl rfl
  · refine q_s (pc' := 10) (ls' := [vR 137, vI a1, vU]) (st' := [vR 137]) (g' := q1.2) k161_9 rfl rfl ?_
    refine q_callI (ls0 := [vR 137]) (rest := []) (pc' := 13) rfl k161_10 rfl (hy4 rfl rfl rfl rfl) rfl rfl hq_135 rfl (fun q3 => ?_)
    exact q_e k161_13 rfl rfl rfl
set_option maxHeartbeats 4000000 in
theorem jM_edgesFrom_eq (L : Nat) (a1 : Int) (g : AMem) : jM_edgesFrom L a1 g = jM_edgesFrom_4 L a1 0 0 g := by
  unfold jM_edgesFrom
  refine q_s (pc' := 1) (ls' := [vR 137, vI a1, vU, vU]) (st' := [vI 0]) (g' := g) k162_0 rfl rfl ?_
  refine q_s (pc' := 2) (ls' := [vR 137, vI a1, vI 0, vU]) (st' := []) (g' := g) k162_1 rfl rfl ?_
  refine q_s (pc' := 3) (ls' := [vR 137, vI a1, vI 0, vU]) (st' := [vI 0]) (g' := g) k162_2 rfl rfl ?_
  refine q_s (pc' := 4) (ls' := [vR 137, vI a1, vI 0, vI 0]) (st' := []) (g' := g) k162_3 rfl rfl ?_
  rfl
set_option maxHeartbeats 4000000 in
theorem jM_edgesFrom_4_eq (L : Nat) (l1 : Int) (l2 : Int) (l3 : Int) (g : AMem) : jM_edgesFrom_4 L l1 l2 l3 g = if g 137 2 ≤ l3 then (some (l2, g)) else (if 0 ≤ l3 ∧ l3 < 16 then (if g 141 l3 ≠ l1 then (jM_edgesFrom_4 L l1 (iw (l2 + 0)) (iw (l3 + 1)) g) else (jM_edgesFrom_4 L l1 (iw (l2 + 1)) (iw (l3 + 1)) g)) else none) := by
  unfold jM_edgesFrom_4
  refine q_s (pc' := 5) (ls' := [vR 137, vI l1, vI l2, vI l3]) (st' := [vI l3]) (g' := g) k162_4 rfl rfl ?_
  refine q_s (pc' := 6) (ls' := [vR 137, vI l1, vI l2, vI l3]) (st' := [vR 137, vI l3]) (g' := g) k162_5 rfl rfl ?_
  refine q_getI (w := 2) (pc' := 9) k162_6 rfl rfl rfl rfl ?_
  refine q_ic (P := g 137 2 ≤ l3) (t := 36) (pc' := 12) k162_9 Iff.rfl rfl rfl (fun h1 => ?_) (fun h1 => ?_)
  · refine q_s (pc' := 37) (ls' := [vR 137, vI l1, vI l2, vI l3]) (st' := [vI l2]) (g' := g) k162_36 rfl rfl ?_
    exact q_e k162_37 rfl rfl rfl
  · refine q_s (pc' := 13) (ls' := [vR 137, vI l1, vI l2, vI l3]) (st' := [vI l2]) (g' := g) k162_12 rfl rfl ?_
    refine q_s (pc' := 14) (ls' := [vR 137, vI l1, vI l2, vI l3]) (st' := [vR 137, vI l2]) (g' := g) k162_13 rfl rfl ?_
    refine q_getF (r := 141) (pc' := 17) k162_14 rfl rfl rfl rfl ?_
    refine q_s (pc' := 18) (ls' := [vR 137, vI l1, vI l2, vI l3]) (st' := [vI l3, vR 141, vI l2]) (g' := g) k162_17 rfl rfl ?_
    refine q_iald (n := 16) (pc' := 19) rfl k162_18 rfl rfl (fun h2 => ?_)
    refine q_s (pc' := 20) (ls' := [vR 137, vI l1, vI l2, vI l3]) (st' := [vI l1, vI (g 141 l3), vI l2]) (g' := g) k162_19 rfl rfl ?_
    refine q_ic (P := g 141 l3 ≠ l1) (t := 27) (pc' := 23) k162_20 Iff.rfl rfl rfl (fun h3 => ?_) (fun h3 => ?_)
    · refine q_s (pc' := 28) (ls' := [vR 137, vI l1, vI l2, vI l3]) (st' := [vI 0, vI l2]) (g' := g) k162_27 rfl rfl ?_
      refine q_s (pc' := 29) (ls' := [vR 137, vI l1, vI l2, vI l3]) (st' := [vI (iw (l2 + 0))]) (g' := g) k162_28 rfl rfl ?_
      refine q_s (pc' := 30) (ls' := [vR 137, vI l1, vI (iw (l2 + 0)), vI l3]) (st' := []) (g' := g) k162_29 rfl rfl ?_
      refine q_s (pc' := 33) (ls' := [vR 137, vI l1, vI (iw (l2 + 0)), vI (iw (l3 + 1))]) (st' := []) (g' := g) k162_30 rfl rfl ?_
      refine q_s (pc' := 4) (ls' := [vR 137, vI l1, vI (iw (l2 + 0)), vI (iw (l3 + 1))]) (st' := []) (g' := g) k162_33 rfl rfl ?_
      rfl
    · refine q_s (pc' := 24) (ls' := [vR 137, vI l1, vI l2, vI l3]) (st' := [vI 1, vI l2]) (g' := g) k162_23 rfl rfl ?_
      refine q_s (pc' := 28) (ls' := [vR 137, vI l1, vI l2, vI l3]) (st' := [vI 1, vI l2]) (g' := g) k162_24 rfl rfl ?_
      refine q_s (pc' := 29) (ls' := [vR 137, vI l1, vI l2, vI l3]) (st' := [vI (iw (l2 + 1))]) (g' := g) k162_28 rfl rfl ?_
      refine q_s (pc' := 30) (ls' := [vR 137, vI l1, vI (iw (l2 + 1)), vI l3]) (st' := []) (g' := g) k162_29 rfl rfl ?_
      refine q_s (pc' := 33) (ls' := [vR 137, vI l1, vI (iw (l2 + 1)), vI (iw (l3 + 1))]) (st' := []) (g' := g) k162_30 rfl rfl ?_
      refine q_s (pc' := 4) (ls' := [vR 137, vI l1, vI (iw (l2 + 1)), vI (iw (l3 + 1))]) (st' := []) (g' := g) k162_33 rfl rfl ?_
      rfl
set_option maxHeartbeats 4000000 in
theorem jM_edgesTo_eq (L : Nat) (a1 : Int) (g : AMem) : jM_edgesTo L a1 g = jM_edgesTo_4 L a1 0 0 g := by
  unfold jM_edgesTo
  refine q_s (pc' := 1) (ls' := [vR 137, vI a1, vU, vU]) (st' := [vI 0]) (g' := g) k163_0 rfl rfl ?_
  refine q_s (pc' := 2) (ls' := [vR 137, vI a1, vI 0, vU]) (st' := []) (g' := g) k163_1 rfl rfl ?_
  refine q_s (pc' := 3) (ls' := [vR 137, vI a1, vI 0, vU]) (st' := [vI 0]) (g' := g) k163_2 rfl rfl ?_
  refine q_s (pc' := 4) (ls' := [vR 137, vI a1, vI 0, vI 0]) (st' := []) (g' := g) k163_3 rfl rfl ?_
  rfl
set_option maxHeartbeats 4000000 in
theorem jM_edgesTo_4_eq (L : Nat) (l1 : Int) (l2 : Int) (l3 : Int) (g : AMem) : jM_edgesTo_4 L l1 l2 l3 g = if g 137 2 ≤ l3 then (some (l2, g)) else (if 0 ≤ l3 ∧ l3 < 16 then (if g 142 l3 ≠ l1 then (jM_edgesTo_4 L l1 (iw (l2 + 0)) (iw (l3 + 1)) g) else (jM_edgesTo_4 L l1 (iw (l2 + 1)) (iw (l3 + 1)) g)) else none) := by
  unfold jM_edgesTo_4
  refine q_s (pc' := 5) (ls' := [vR 137, vI l1, vI l2, vI l3]) (st' := [vI l3]) (g' := g) k163_4 rfl rfl ?_
  refine q_s (pc' := 6) (ls' := [vR 137, vI l1, vI l2, vI l3]) (st' := [vR 137, vI l3]) (g' := g) k163_5 rfl rfl ?_
  refine q_getI (w := 2) (pc' := 9) k163_6 rfl rfl rfl rfl ?_
  refine q_ic (P := g 137 2 ≤ l3) (t := 36) (pc' := 12) k163_9 Iff.rfl rfl rfl (fun h1 => ?_) (fun h1 => ?_)
  · refine q_s (pc' := 37) (ls' := [vR 137, vI l1, vI l2, vI l3]) (st' := [vI l2]) (g' := g) k163_36 rfl rfl ?_
    exact q_e k163_37 rfl rfl rfl
  · refine q_s (pc' := 13) (ls' := [vR 137, vI l1, vI l2, vI l3]) (st' := [vI l2]) (g' := g) k163_12 rfl rfl ?_
    refine q_s (pc' := 14) (ls' := [vR 137, vI l1, vI l2, vI l3]) (st' := [vR 137, vI l2]) (g' := g) k163_13 rfl rfl ?_
    refine q_getF (r := 142) (pc' := 17) k163_14 rfl rfl rfl rfl ?_
    refine q_s (pc' := 18) (ls' := [vR 137, vI l1, vI l2, vI l3]) (st' := [vI l3, vR 142, vI l2]) (g' := g) k163_17 rfl rfl ?_
    refine q_iald (n := 16) (pc' := 19) rfl k163_18 rfl rfl (fun h2 => ?_)
    refine q_s (pc' := 20) (ls' := [vR 137, vI l1, vI l2, vI l3]) (st' := [vI l1, vI (g 142 l3), vI l2]) (g' := g) k163_19 rfl rfl ?_
    refine q_ic (P := g 142 l3 ≠ l1) (t := 27) (pc' := 23) k163_20 Iff.rfl rfl rfl (fun h3 => ?_) (fun h3 => ?_)
    · refine q_s (pc' := 28) (ls' := [vR 137, vI l1, vI l2, vI l3]) (st' := [vI 0, vI l2]) (g' := g) k163_27 rfl rfl ?_
      refine q_s (pc' := 29) (ls' := [vR 137, vI l1, vI l2, vI l3]) (st' := [vI (iw (l2 + 0))]) (g' := g) k163_28 rfl rfl ?_
      refine q_s (pc' := 30) (ls' := [vR 137, vI l1, vI (iw (l2 + 0)), vI l3]) (st' := []) (g' := g) k163_29 rfl rfl ?_
      refine q_s (pc' := 33) (ls' := [vR 137, vI l1, vI (iw (l2 + 0)), vI (iw (l3 + 1))]) (st' := []) (g' := g) k163_30 rfl rfl ?_
      refine q_s (pc' := 4) (ls' := [vR 137, vI l1, vI (iw (l2 + 0)), vI (iw (l3 + 1))]) (st' := []) (g' := g) k163_33 rfl rfl ?_
      rfl
    · refine q_s (pc' := 24) (ls' := [vR 137, vI l1, vI l2, vI l3]) (st' := [vI 1, vI l2]) (g' := g) k163_23 rfl rfl ?_
      refine q_s (pc' := 28) (ls' := [vR 137, vI l1, vI l2, vI l3]) (st' := [vI 1, vI l2]) (g' := g) k163_24 rfl rfl ?_
      refine q_s (pc' := 29) (ls' := [vR 137, vI l1, vI l2, vI l3]) (st' := [vI (iw (l2 + 1))]) (g' := g) k163_28 rfl rfl ?_
      refine q_s (pc' := 30) (ls' := [vR 137, vI l1, vI (iw (l2 + 1)), vI l3]) (st' := []) (g' := g) k163_29 rfl rfl ?_
      refine q_s (pc' := 33) (ls' := [vR 137, vI l1, vI (iw (l2 + 1)), vI (iw (l3 + 1))]) (st' := []) (g' := g) k163_30 rfl rfl ?_
      refine q_s (pc' := 4) (ls' := [vR 137, vI l1, vI (iw (l2 + 1)), vI (iw (l3 + 1))]) (st' := []) (g' := g) k163_33 rfl rfl ?_
      rfl
set_option maxHeartbeats 4000000 in
theorem jM_whereOf_eq (L : Nat) (a1 : Int) (g : AMem) : jM_whereOf L a1 g = if 0 ≤ a1 ∧ a1 < 16 then ((jM_edgesFrom L (g 141 a1) g).bind (fun q2 => if q2.1 ≠ 1 then (if 0 ≤ a1 ∧ a1 < 16 then ((jM_edgesTo L (q2.2 142 a1) q2.2).bind (fun q5 => if q5.1 ≠ 1 then (some (2, q5.2)) else (some (1, q5.2)))) else none) else (some (0, q2.2)))) else none := by
  unfold jM_whereOf
  refine q_s (pc' := 1) (ls' := [vR 137, vI a1]) (st' := [vR 137]) (g' := g) k164_0 rfl rfl ?_
  refine q_s (pc' := 2) (ls' := [vR 137, vI a1]) (st' := [vR 137, vR 137]) (g' := g) k164_1 rfl rfl ?_
  refine q_getF (r := 141) (pc' := 5) k164_2 rfl rfl rfl rfl ?_
  refine q_s (pc' := 6) (ls' := [vR 137, vI a1]) (st' := [vI a1, vR 141, vR 137]) (g' := g) k164_5 rfl rfl ?_
  refine q_iald (n := 16) (pc' := 7) rfl k164_6 rfl rfl (fun h1 => ?_)
  refine q_callI (ls0 := [vR 137, vI (g 141 a1), vU, vU]) (rest := []) (pc' := 10) rfl k164_7 rfl (hy4 rfl rfl rfl rfl) rfl rfl hq_162 rfl (fun q2 => ?_)
  refine q_s (pc' := 11) (ls' := [vR 137, vI a1]) (st' := [vI 1, vI q2.1]) (g' := q2.2) k164_10 rfl rfl ?_
  refine q_ic (P := q2.1 ≠ 1) (t := 18) (pc' := 14) k164_11 Iff.rfl rfl rfl (fun h3 => ?_) (fun h3 => ?_)
  · refine q_s (pc' := 19) (ls' := [vR 137, vI a1]) (st' := [vR 137]) (g' := q2.2) k164_18 rfl rfl ?_
    refine q_s (pc' := 20) (ls' := [vR 137, vI a1]) (st' := [vR 137, vR 137]) (g' := q2.2) k164_19 rfl rfl ?_
    refine q_getF (r := 142) (pc' := 23) k164_20 rfl rfl rfl rfl ?_
    refine q_s (pc' := 24) (ls' := [vR 137, vI a1]) (st' := [vI a1, vR 142, vR 137]) (g' := q2.2) k164_23 rfl rfl ?_
    refine q_iald (n := 16) (pc' := 25) rfl k164_24 rfl rfl (fun h4 => ?_)
    refine q_callI (ls0 := [vR 137, vI (q2.2 142 a1), vU, vU]) (rest := []) (pc' := 28) rfl k164_25 rfl (hy4 rfl rfl rfl rfl) rfl rfl hq_163 rfl (fun q5 => ?_)
    refine q_s (pc' := 29) (ls' := [vR 137, vI a1]) (st' := [vI 1, vI q5.1]) (g' := q5.2) k164_28 rfl rfl ?_
    refine q_ic (P := q5.1 ≠ 1) (t := 36) (pc' := 32) k164_29 Iff.rfl rfl rfl (fun h6 => ?_) (fun h6 => ?_)
    · refine q_s (pc' := 37) (ls' := [vR 137, vI a1]) (st' := [vI 2]) (g' := q5.2) k164_36 rfl rfl ?_
      exact q_e k164_37 rfl rfl rfl
    · refine q_s (pc' := 33) (ls' := [vR 137, vI a1]) (st' := [vI 1]) (g' := q5.2) k164_32 rfl rfl ?_
      refine q_s (pc' := 37) (ls' := [vR 137, vI a1]) (st' := [vI 1]) (g' := q5.2) k164_33 rfl rfl ?_
      exact q_e k164_37 rfl rfl rfl
  · refine q_s (pc' := 15) (ls' := [vR 137, vI a1]) (st' := [vI 0]) (g' := q2.2) k164_14 rfl rfl ?_
    refine q_s (pc' := 37) (ls' := [vR 137, vI a1]) (st' := [vI 0]) (g' := q2.2) k164_15 rfl rfl ?_
    exact q_e k164_37 rfl rfl rfl
set_option maxHeartbeats 4000000 in
theorem jM_moves_eq (L : Nat) (a1 : Int) (a2 : Int) (g : AMem) : jM_moves L a1 a2 g = (jM_givenOf L a1 a2 g).bind (fun q1 => (jM_parameterOf L a1 a2 q1.2).bind (fun q2 => if q1.1 = q2.1 then (some (0, q2.2)) else (some (1, q2.2)))) := by
  unfold jM_moves
  refine q_s (pc' := 1) (ls' := [vR 137, vI a1, vI a2]) (st' := [vR 137]) (g' := g) k165_0 rfl rfl ?_
  refine q_s (pc' := 2) (ls' := [vR 137, vI a1, vI a2]) (st' := [vI a1, vR 137]) (g' := g) k165_1 rfl rfl ?_
  refine q_s (pc' := 3) (ls' := [vR 137, vI a1, vI a2]) (st' := [vI a2, vI a1, vR 137]) (g' := g) k165_2 rfl rfl ?_
  refine q_callI (ls0 := [vR 137, vI a1, vI a2]) (rest := []) (pc' := 6) rfl k165_3 rfl (hy4 rfl rfl rfl rfl) rfl rfl hq_149 rfl (fun q1 => ?_)
  refine q_s (pc' := 7) (ls' := [vR 137, vI a1, vI a2]) (st' := [vR 137, vI q1.1]) (g' := q1.2) k165_6 rfl rfl ?_
  refine q_s (pc' := 8) (ls' := [vR 137, vI a1, vI a2]) (st' := [vI a1, vR 137, vI q1.1]) (g' := q1.2) k165_7 rfl rfl ?_
  refine q_s (pc' := 9) (ls' := [vR 137, vI a1, vI a2]) (st' := [vI a2, vI a1, vR 137, vI q1.1]) (g' := q1.2) k165_8 rfl rfl ?_
  refine q_callI (ls0 := [vR 137, vI a1, vI a2]) (rest := [vI q1.1]) (pc' := 12) rfl k165_9 rfl (hy4 rfl rfl rfl rfl) rfl rfl hq_147 rfl (fun q2 => ?_)
  refine q_ic (P := q1.1 = q2.1) (t := 19) (pc' := 15) k165_12 Iff.rfl rfl rfl (fun h3 => ?_) (fun h3 => ?_)
  · refine q_s (pc' := 20) (ls' := [vR 137, vI a1, vI a2]) (st' := [vI 0]) (g' := q2.2) k165_19 rfl rfl ?_
    exact q_e k165_20 rfl rfl rfl
  · refine q_s (pc' := 16) (ls' := [vR 137, vI a1, vI a2]) (st' := [vI 1]) (g' := q2.2) k165_15 rfl rfl ?_
    refine q_s (pc' := 20) (ls' := [vR 137, vI a1, vI a2]) (st' := [vI 1]) (g' := q2.2) k165_16 rfl rfl ?_
    exact q_e k165_20 rfl rfl rfl
set_option maxHeartbeats 4000000 in
theorem jM_isAcross_eq (L : Nat) (a1 : Int) (a2 : Int) (g : AMem) : jM_isAcross L a1 a2 g = jM_isAcross_5 L a1 a2 0 0 vU g := by
  unfold jM_isAcross
  refine q_s (pc' := 1) (ls' := [vR 137, vI a1, vI a2, vU, vU, vU]) (st' := [vI 0]) (g' := g) k166_0 rfl rfl ?_
  refine q_s (pc' := 2) (ls' := [vR 137, vI a1, vI a2, vI 0, vU, vU]) (st' := []) (g' := g) k166_1 rfl rfl ?_
  refine q_s (pc' := 3) (ls' := [vR 137, vI a1, vI a2, vI 0, vU, vU]) (st' := [vI 0]) (g' := g) k166_2 rfl rfl ?_
  refine q_s (pc' := 5) (ls' := [vR 137, vI a1, vI a2, vI 0, vI 0, vU]) (st' := []) (g' := g) k166_3 rfl rfl ?_
  rfl
set_option maxHeartbeats 4000000 in
theorem jM_isAcross_5_eq (L : Nat) (l1 : Int) (l2 : Int) (l3 : Int) (l4 : Int) (w5 : AVal) (g : AMem) : jM_isAcross_5 L l1 l2 l3 l4 w5 g = (jM_manyOf L l1 g).bind (fun q1 => if q1.1 ≤ l4 then (if l3 = 0 ∨ l3 = 1 then some (l3, q1.2) else none) else ((jM_parameterOf L l1 l4 q1.2).bind (fun q3 => (jM_across L q3.1 l2 q3.2).bind (fun q4 => if q4.1 ≠ 0 then (if l3 ≠ 0 then (jM_isAcross_5 L l1 l2 1 (iw (l4 + 1)) (vI 1) q4.2) else ((jM_moves L l1 l4 q4.2).bind (fun q7 => if q7.1 = 0 then (jM_isAcross_5 L l1 l2 0 (iw (l4 + 1)) (vI 1) q7.2) else (jM_isAcross_5 L l1 l2 1 (iw (l4 + 1)) (vI 1) q7.2)))) else ((jM_givenOf L l1 l4 q4.2).bind (fun q9 => if q9.1 ≤ 0 then (if l3 ≠ 0 then (jM_isAcross_5 L l1 l2 1 (iw (l4 + 1)) (vI 0) q9.2) else ((jM_moves L l1 l4 q9.2).bind (fun q12 => if q12.1 = 0 then (jM_isAcross_5 L l1 l2 0 (iw (l4 + 1)) (vI 0) q12.2) else (jM_isAcross_5 L l1 l2 0 (iw (l4 + 1)) (vI 0) q12.2)))) else ((jM_givenOf L l1 l4 q9.2).bind (fun q14 => (jM_across L q14.1 l2 q14.2).bind (fun q15 => if q15.1 = 0 then (if l3 ≠ 0 then (jM_isAcross_5 L l1 l2 1 (iw (l4 + 1)) (vI 0) q15.2) else ((jM_moves L l1 l4 q15.2).bind (fun q18 => if q18.1 = 0 then (jM_isAcross_5 L l1 l2 0 (iw (l4 + 1)) (vI 0) q18.2) else (jM_isAcross_5 L l1 l2 0 (iw (l4 + 1)) (vI 0) q18.2)))) else (if l3 ≠ 0 then (jM_isAcross_5 L l1 l2 1 (iw (l4 + 1)) (vI 1) q15.2) else ((jM_moves L l1 l4 q15.2).bind (fun q21 => if q21.1 = 0 then (jM_isAcross_5 L l1 l2 0 (iw (l4 + 1)) (vI 1) q21.2) else (jM_isAcross_5 L l1 l2 1 (iw (l4 + 1)) (vI 1) q21.2))))))))))))) := by
  unfold jM_isAcross_5
  refine q_s (pc' := 7) (ls' := [vR 137, vI l1, vI l2, vI l3, vI l4, w5]) (st' := [vI l4]) (g' := g) k166_5 rfl rfl ?_
  refine q_s (pc' := 8) (ls' := [vR 137, vI l1, vI l2, vI l3, vI l4, w5]) (st' := [vR 137, vI l4]) (g' := g) k166_7 rfl rfl ?_
  refine q_s (pc' := 9) (ls' := [vR 137, vI l1, vI l2, vI l3, vI l4, w5]) (st' := [vI l1, vR 137, vI l4]) (g' := g) k166_8 rfl rfl ?_
  refine q_callI (ls0 := [vR 137, vI l1]) (rest := [vI l4]) (pc' := 12) rfl k166_9 rfl (hy4 rfl rfl rfl rfl) rfl rfl hq_148 rfl (fun q1 => ?_)
  refine q_ic (P := q1.1 ≤ l4) (t := 91) (pc' := 15) k166_12 Iff.rfl rfl rfl (fun h2 => ?_) (fun h2 => ?_)
  · refine q_s (pc' := 92) (ls' := [vR 137, vI l1, vI l2, vI l3, vI l4, w5]) (st' := [vI l3]) (g' := q1.2) k166_91 rfl rfl ?_
    exact q_eb rfl k166_92 rfl rfl
  · refine q_s (pc' := 16) (ls' := [vR 137, vI l1, vI l2, vI l3, vI l4, w5]) (st' := [vR 137]) (g' := q1.2) k166_15 rfl rfl ?_
    refine q_s (pc' := 17) (ls' := [vR 137, vI l1, vI l2, vI l3, vI l4, w5]) (st' := [vI l1, vR 137]) (g' := q1.2) k166_16 rfl rfl ?_
    refine q_s (pc' := 19) (ls' := [vR 137, vI l1, vI l2, vI l3, vI l4, w5]) (st' := [vI l4, vI l1, vR 137]) (g' := q1.2) k166_17 rfl rfl ?_
    refine q_callI (ls0 := [vR 137, vI l1, vI l4]) (rest := []) (pc' := 22) rfl k166_19 rfl (hy4 rfl rfl rfl rfl) rfl rfl hq_147 rfl (fun q3 => ?_)
    refine q_s (pc' := 23) (ls' := [vR 137, vI l1, vI l2, vI l3, vI l4, w5]) (st' := [vI l2, vI q3.1]) (g' := q3.2) k166_22 rfl rfl ?_
    refine q_callI (ls0 := [vI q3.1, vI l2]) (rest := []) (pc' := 26) rfl k166_23 rfl (hy4 rfl rfl rfl rfl) rfl rfl hq_144 rfl (fun q4 => ?_)
    refine q_if (P := q4.1 ≠ 0) (t := 53) (pc' := 29) k166_26 Iff.rfl rfl rfl (fun h5 => ?_) (fun h5 => ?_)
    · refine q_s (pc' := 54) (ls' := [vR 137, vI l1, vI l2, vI l3, vI l4, w5]) (st' := [vI 1]) (g' := q4.2) k166_53 rfl rfl ?_
      refine q_s (pc' := 58) (ls' := [vR 137, vI l1, vI l2, vI l3, vI l4, w5]) (st' := [vI 1]) (g' := q4.2) k166_54 rfl rfl ?_
      refine q_s (pc' := 60) (ls' := [vR 137, vI l1, vI l2, vI l3, vI l4, vI 1]) (st' := []) (g' := q4.2) k166_58 rfl rfl ?_
      refine q_s (pc' := 61) (ls' := [vR 137, vI l1, vI l2, vI l3, vI l4, vI 1]) (st' := [vI l3]) (g' := q4.2) k166_60 rfl rfl ?_
      refine q_if (P := l3 ≠ 0) (t := 79) (pc' := 64) k166_61 Iff.rfl rfl rfl (fun h6 => ?_) (fun h6 => ?_)
      · refine q_s (pc' := 80) (ls' := [vR 137, vI l1, vI l2, vI l3, vI l4, vI 1]) (st' := [vI 1]) (g' := q4.2) k166_79 rfl rfl ?_
        refine q_s (pc' := 84) (ls' := [vR 137, vI l1, vI l2, vI l3, vI l4, vI 1]) (st' := [vI 1]) (g' := q4.2) k166_80 rfl rfl ?_
        refine q_s (pc' := 85) (ls' := [vR 137, vI l1, vI l2, vI 1, vI l4, vI 1]) (st' := []) (g' := q4.2) k166_84 rfl rfl ?_
        refine q_s (pc' := 88) (ls' := [vR 137, vI l1, vI l2, vI 1, vI (iw (l4 + 1)), vI 1]) (st' := []) (g' := q4.2) k166_85 rfl rfl ?_
        refine q_s (pc' := 5) (ls' := [vR 137, vI l1, vI l2, vI 1, vI (iw (l4 + 1)), vI 1]) (st' := []) (g' := q4.2) k166_88 rfl rfl ?_
        rfl
      · refine q_s (pc' := 65) (ls' := [vR 137, vI l1, vI l2, vI l3, vI l4, vI 1]) (st' := [vR 137]) (g' := q4.2) k166_64 rfl rfl ?_
        refine q_s (pc' := 66) (ls' := [vR 137, vI l1, vI l2, vI l3, vI l4, vI 1]) (st' := [vI l1, vR 137]) (g' := q4.2) k166_65 rfl rfl ?_
        refine q_s (pc' := 68) (ls' := [vR 137, vI l1, vI l2, vI l3, vI l4, vI 1]) (st' := [vI l4, vI l1, vR 137]) (g' := q4.2) k166_66 rfl rfl ?_
        refine q_callI (ls0 := [vR 137, vI l1, vI l4]) (rest := []) (pc' := 71) rfl k166_68 rfl (hy4 rfl rfl rfl rfl) rfl rfl hq_165 rfl (fun q7 => ?_)
        refine q_if (P := q7.1 = 0) (t := 83) (pc' := 74) k166_71 Iff.rfl rfl rfl (fun h8 => ?_) (fun h8 => ?_)
        · refine q_s (pc' := 84) (ls' := [vR 137, vI l1, vI l2, vI l3, vI l4, vI 1]) (st' := [vI 0]) (g' := q7.2) k166_83 rfl rfl ?_
          refine q_s (pc' := 85) (ls' := [vR 137, vI l1, vI l2, vI 0, vI l4, vI 1]) (st' := []) (g' := q7.2) k166_84 rfl rfl ?_
          refine q_s (pc' := 88) (ls' := [vR 137, vI l1, vI l2, vI 0, vI (iw (l4 + 1)), vI 1]) (st' := []) (g' := q7.2) k166_85 rfl rfl ?_
          refine q_s (pc' := 5) (ls' := [vR 137, vI l1, vI l2, vI 0, vI (iw (l4 + 1)), vI 1]) (st' := []) (g' := q7.2) k166_88 rfl rfl ?_
          rfl
        · refine q_s (pc' := 76) (ls' := [vR 137, vI l1, vI l2, vI l3, vI l4, vI 1]) (st' := [vI 1]) (g' := q7.2) k166_74 rfl rfl ?_
          refine q_s (pc' := 79) (ls' := [vR 137, vI l1, vI l2, vI l3, vI l4, vI 1]) (st' := []) (g' := q7.2) k166_76 rfl rfl ?_
          refine q_s (pc' := 80) (ls' := [vR 137, vI l1, vI l2, vI l3, vI l4, vI 1]) (st' := [vI 1]) (g' := q7.2) k166_79 rfl rfl ?_
          refine q_s (pc' := 84) (ls' := [vR 137, vI l1, vI l2, vI l3, vI l4, vI 1]) (st' := [vI 1]) (g' := q7.2) k166_80 rfl rfl ?_
          refine q_s (pc' := 85) (ls' := [vR 137, vI l1, vI l2, vI 1, vI l4, vI 1]) (st' := []) (g' := q7.2) k166_84 rfl rfl ?_
          refine q_s (pc' := 88) (ls' := [vR 137, vI l1, vI l2, vI 1, vI (iw (l4 + 1)), vI 1]) (st' := []) (g' := q7.2) k166_85 rfl rfl ?_
          refine q_s (pc' := 5) (ls' := [vR 137, vI l1, vI l2, vI 1, vI (iw (l4 + 1)), vI 1]) (st' := []) (g' := q7.2) k166_88 rfl rfl ?_
          rfl
    · refine q_s (pc' := 30) (ls' := [vR 137, vI l1, vI l2, vI l3, vI l4, w5]) (st' := [vR 137]) (g' := q4.2) k166_29 rfl rfl ?_
      refine q_s (pc' := 31) (ls' := [vR 137, vI l1, vI l2, vI l3, vI l4, w5]) (st' := [vI l1, vR 137]) (g' := q4.2) k166_30 rfl rfl ?_
      refine q_s (pc' := 33) (ls' := [vR 137, vI l1, vI l2, vI l3, vI l4, w5]) (st' := [vI l4, vI l1, vR 137]) (g' := q4.2) k166_31 rfl rfl ?_
      refine q_callI (ls0 := [vR 137, vI l1, vI l4]) (rest := []) (pc' := 36) rfl k166_33 rfl (hy4 rfl rfl rfl rfl) rfl rfl hq_149 rfl (fun q9 => ?_)
      refine q_if (P := q9.1 ≤ 0) (t := 57) (pc' := 39) k166_36 Iff.rfl rfl rfl (fun h10 => ?_) (fun h10 => ?_)
      · refine q_s (pc' := 58) (ls' := [vR 137, vI l1, vI l2, vI l3, vI l4, w5]) (st' := [vI 0]) (g' := q9.2) k166_57 rfl rfl ?_
        refine q_s (pc' := 60) (ls' := [vR 137, vI l1, vI l2, vI l3, vI l4, vI 0]) (st' := []) (g' := q9.2) k166_58 rfl rfl ?_
        refine q_s (pc' := 61) (ls' := [vR 137, vI l1, vI l2, vI l3, vI l4, vI 0]) (st' := [vI l3]) (g' := q9.2) k166_60 rfl rfl ?_
        refine q_if (P := l3 ≠ 0) (t := 79) (pc' := 64) k166_61 Iff.rfl rfl rfl (fun h11 => ?_) (fun h11 => ?_)
        · refine q_s (pc' := 80) (ls' := [vR 137, vI l1, vI l2, vI l3, vI l4, vI 0]) (st' := [vI 1]) (g' := q9.2) k166_79 rfl rfl ?_
          refine q_s (pc' := 84) (ls' := [vR 137, vI l1, vI l2, vI l3, vI l4, vI 0]) (st' := [vI 1]) (g' := q9.2) k166_80 rfl rfl ?_
          refine q_s (pc' := 85) (ls' := [vR 137, vI l1, vI l2, vI 1, vI l4, vI 0]) (st' := []) (g' := q9.2) k166_84 rfl rfl ?_
          refine q_s (pc' := 88) (ls' := [vR 137, vI l1, vI l2, vI 1, vI (iw (l4 + 1)), vI 0]) (st' := []) (g' := q9.2) k166_85 rfl rfl ?_
          refine q_s (pc' := 5) (ls' := [vR 137, vI l1, vI l2, vI 1, vI (iw (l4 + 1)), vI 0]) (st' := []) (g' := q9.2) k166_88 rfl rfl ?_
          rfl
        · refine q_s (pc' := 65) (ls' := [vR 137, vI l1, vI l2, vI l3, vI l4, vI 0]) (st' := [vR 137]) (g' := q9.2) k166_64 rfl rfl ?_
          refine q_s (pc' := 66) (ls' := [vR 137, vI l1, vI l2, vI l3, vI l4, vI 0]) (st' := [vI l1, vR 137]) (g' := q9.2) k166_65 rfl rfl ?_
          refine q_s (pc' := 68) (ls' := [vR 137, vI l1, vI l2, vI l3, vI l4, vI 0]) (st' := [vI l4, vI l1, vR 137]) (g' := q9.2) k166_66 rfl rfl ?_
          refine q_callI (ls0 := [vR 137, vI l1, vI l4]) (rest := []) (pc' := 71) rfl k166_68 rfl (hy4 rfl rfl rfl rfl) rfl rfl hq_165 rfl (fun q12 => ?_)
          refine q_if (P := q12.1 = 0) (t := 83) (pc' := 74) k166_71 Iff.rfl rfl rfl (fun h13 => ?_) (fun h13 => ?_)
          · refine q_s (pc' := 84) (ls' := [vR 137, vI l1, vI l2, vI l3, vI l4, vI 0]) (st' := [vI 0]) (g' := q12.2) k166_83 rfl rfl ?_
            refine q_s (pc' := 85) (ls' := [vR 137, vI l1, vI l2, vI 0, vI l4, vI 0]) (st' := []) (g' := q12.2) k166_84 rfl rfl ?_
            refine q_s (pc' := 88) (ls' := [vR 137, vI l1, vI l2, vI 0, vI (iw (l4 + 1)), vI 0]) (st' := []) (g' := q12.2) k166_85 rfl rfl ?_
            refine q_s (pc' := 5) (ls' := [vR 137, vI l1, vI l2, vI 0, vI (iw (l4 + 1)), vI 0]) (st' := []) (g' := q12.2) k166_88 rfl rfl ?_
            rfl
          · refine q_s (pc' := 76) (ls' := [vR 137, vI l1, vI l2, vI l3, vI l4, vI 0]) (st' := [vI 0]) (g' := q12.2) k166_74 rfl rfl ?_
            refine q_s (pc' := 83) (ls' := [vR 137, vI l1, vI l2, vI l3, vI l4, vI 0]) (st' := []) (g' := q12.2) k166_76 rfl rfl ?_
            refine q_s (pc' := 84) (ls' := [vR 137, vI l1, vI l2, vI l3, vI l4, vI 0]) (st' := [vI 0]) (g' := q12.2) k166_83 rfl rfl ?_
            refine q_s (pc' := 85) (ls' := [vR 137, vI l1, vI l2, vI 0, vI l4, vI 0]) (st' := []) (g' := q12.2) k166_84 rfl rfl ?_
            refine q_s (pc' := 88) (ls' := [vR 137, vI l1, vI l2, vI 0, vI (iw (l4 + 1)), vI 0]) (st' := []) (g' := q12.2) k166_85 rfl rfl ?_
            refine q_s (pc' := 5) (ls' := [vR 137, vI l1, vI l2, vI 0, vI (iw (l4 + 1)), vI 0]) (st' := []) (g' := q12.2) k166_88 rfl rfl ?_
            rfl
      · refine q_s (pc' := 40) (ls' := [vR 137, vI l1, vI l2, vI l3, vI l4, w5]) (st' := [vR 137]) (g' := q9.2) k166_39 rfl rfl ?_
        refine q_s (pc' := 41) (ls' := [vR 137, vI l1, vI l2, vI l3, vI l4, w5]) (st' := [vI l1, vR 137]) (g' := q9.2) k166_40 rfl rfl ?_
        refine q_s (pc' := 43) (ls' := [vR 137, vI l1, vI l2, vI l3, vI l4, w5]) (st' := [vI l4, vI l1, vR 137]) (g' := q9.2) k166_41 rfl rfl ?_
        refine q_callI (ls0 := [vR 137, vI l1, vI l4]) (rest := []) (pc' := 46) rfl k166_43 rfl (hy4 rfl rfl rfl rfl) rfl rfl hq_149 rfl (fun q14 => ?_)
        refine q_s (pc' := 47) (ls' := [vR 137, vI l1, vI l2, vI l3, vI l4, w5]) (st' := [vI l2, vI q14.1]) (g' := q14.2) k166_46 rfl rfl ?_
        refine q_callI (ls0 := [vI q14.1, vI l2]) (rest := []) (pc' := 50) rfl k166_47 rfl (hy4 rfl rfl rfl rfl) rfl rfl hq_144 rfl (fun q15 => ?_)
        refine q_if (P := q15.1 = 0) (t := 57) (pc' := 53) k166_50 Iff.rfl rfl rfl (fun h16 => ?_) (fun h16 => ?_)
        · refine q_s (pc' := 58) (ls' := [vR 137, vI l1, vI l2, vI l3, vI l4, w5]) (st' := [vI 0]) (g' := q15.2) k166_57 rfl rfl ?_
          refine q_s (pc' := 60) (ls' := [vR 137, vI l1, vI l2, vI l3, vI l4, vI 0]) (st' := []) (g' := q15.2) k166_58 rfl rfl ?_
          refine q_s (pc' := 61) (ls' := [vR 137, vI l1, vI l2, vI l3, vI l4, vI 0]) (st' := [vI l3]) (g' := q15.2) k166_60 rfl rfl ?_
          refine q_if (P := l3 ≠ 0) (t := 79) (pc' := 64) k166_61 Iff.rfl rfl rfl (fun h17 => ?_) (fun h17 => ?_)
          · refine q_s (pc' := 80) (ls' := [vR 137, vI l1, vI l2, vI l3, vI l4, vI 0]) (st' := [vI 1]) (g' := q15.2) k166_79 rfl rfl ?_
            refine q_s (pc' := 84) (ls' := [vR 137, vI l1, vI l2, vI l3, vI l4, vI 0]) (st' := [vI 1]) (g' := q15.2) k166_80 rfl rfl ?_
            refine q_s (pc' := 85) (ls' := [vR 137, vI l1, vI l2, vI 1, vI l4, vI 0]) (st' := []) (g' := q15.2) k166_84 rfl rfl ?_
            refine q_s (pc' := 88) (ls' := [vR 137, vI l1, vI l2, vI 1, vI (iw (l4 + 1)), vI 0]) (st' := []) (g' := q15.2) k166_85 rfl rfl ?_
            refine q_s (pc' := 5) (ls' := [vR 137, vI l1, vI l2, vI 1, vI (iw (l4 + 1)), vI 0]) (st' := []) (g' := q15.2) k166_88 rfl rfl ?_
            rfl
          · refine q_s (pc' := 65) (ls' := [vR 137, vI l1, vI l2, vI l3, vI l4, vI 0]) (st' := [vR 137]) (g' := q15.2) k166_64 rfl rfl ?_
            refine q_s (pc' := 66) (ls' := [vR 137, vI l1, vI l2, vI l3, vI l4, vI 0]) (st' := [vI l1, vR 137]) (g' := q15.2) k166_65 rfl rfl ?_
            refine q_s (pc' := 68) (ls' := [vR 137, vI l1, vI l2, vI l3, vI l4, vI 0]) (st' := [vI l4, vI l1, vR 137]) (g' := q15.2) k166_66 rfl rfl ?_
            refine q_callI (ls0 := [vR 137, vI l1, vI l4]) (rest := []) (pc' := 71) rfl k166_68 rfl (hy4 rfl rfl rfl rfl) rfl rfl hq_165 rfl (fun q18 => ?_)
            refine q_if (P := q18.1 = 0) (t := 83) (pc' := 74) k166_71 Iff.rfl rfl rfl (fun h19 => ?_) (fun h19 => ?_)
            · refine q_s (pc' := 84) (ls' := [vR 137, vI l1, vI l2, vI l3, vI l4, vI 0]) (st' := [vI 0]) (g' := q18.2) k166_83 rfl rfl ?_
              refine q_s (pc' := 85) (ls' := [vR 137, vI l1, vI l2, vI 0, vI l4, vI 0]) (st' := []) (g' := q18.2) k166_84 rfl rfl ?_
              refine q_s (pc' := 88) (ls' := [vR 137, vI l1, vI l2, vI 0, vI (iw (l4 + 1)), vI 0]) (st' := []) (g' := q18.2) k166_85 rfl rfl ?_
              refine q_s (pc' := 5) (ls' := [vR 137, vI l1, vI l2, vI 0, vI (iw (l4 + 1)), vI 0]) (st' := []) (g' := q18.2) k166_88 rfl rfl ?_
              rfl
            · refine q_s (pc' := 76) (ls' := [vR 137, vI l1, vI l2, vI l3, vI l4, vI 0]) (st' := [vI 0]) (g' := q18.2) k166_74 rfl rfl ?_
              refine q_s (pc' := 83) (ls' := [vR 137, vI l1, vI l2, vI l3, vI l4, vI 0]) (st' := []) (g' := q18.2) k166_76 rfl rfl ?_
              refine q_s (pc' := 84) (ls' := [vR 137, vI l1, vI l2, vI l3, vI l4, vI 0]) (st' := [vI 0]) (g' := q18.2) k166_83 rfl rfl ?_
              refine q_s (pc' := 85) (ls' := [vR 137, vI l1, vI l2, vI 0, vI l4, vI 0]) (st' := []) (g' := q18.2) k166_84 rfl rfl ?_
              refine q_s (pc' := 88) (ls' := [vR 137, vI l1, vI l2, vI 0, vI (iw (l4 + 1)), vI 0]) (st' := []) (g' := q18.2) k166_85 rfl rfl ?_
              refine q_s (pc' := 5) (ls' := [vR 137, vI l1, vI l2, vI 0, vI (iw (l4 + 1)), vI 0]) (st' := []) (g' := q18.2) k166_88 rfl rfl ?_
              rfl
        · refine q_s (pc' := 54) (ls' := [vR 137, vI l1, vI l2, vI l3, vI l4, w5]) (st' := [vI 1]) (g' := q15.2) k166_53 rfl rfl ?_
          refine q_s (pc' := 58) (ls' := [vR 137, vI l1, vI l2, vI l3, vI l4, w5]) (st' := [vI 1]) (g' := q15.2) k166_54 rfl rfl ?_
          refine q_s (pc' := 60) (ls' := [vR 137, vI l1, vI l2, vI l3, vI l4, vI 1]) (st' := []) (g' := q15.2) k166_58 rfl rfl ?_
          refine q_s (pc' := 61) (ls' := [vR 137, vI l1, vI l2, vI l3, vI l4, vI 1]) (st' := [vI l3]) (g' := q15.2) k166_60 rfl rfl ?_
          refine q_if (P := l3 ≠ 0) (t := 79) (pc' := 64) k166_61 Iff.rfl rfl rfl (fun h20 => ?_) (fun h20 => ?_)
          · refine q_s (pc' := 80) (ls' := [vR 137, vI l1, vI l2, vI l3, vI l4, vI 1]) (st' := [vI 1]) (g' := q15.2) k166_79 rfl rfl ?_
            refine q_s (pc' := 84) (ls' := [vR 137, vI l1, vI l2, vI l3, vI l4, vI 1]) (st' := [vI 1]) (g' := q15.2) k166_80 rfl rfl ?_
            refine q_s (pc' := 85) (ls' := [vR 137, vI l1, vI l2, vI 1, vI l4, vI 1]) (st' := []) (g' := q15.2) k166_84 rfl rfl ?_
            refine q_s (pc' := 88) (ls' := [vR 137, vI l1, vI l2, vI 1, vI (iw (l4 + 1)), vI 1]) (st' := []) (g' := q15.2) k166_85 rfl rfl ?_
            refine q_s (pc' := 5) (ls' := [vR 137, vI l1, vI l2, vI 1, vI (iw (l4 + 1)), vI 1]) (st' := []) (g' := q15.2) k166_88 rfl rfl ?_
            rfl
          · refine q_s (pc' := 65) (ls' := [vR 137, vI l1, vI l2, vI l3, vI l4, vI 1]) (st' := [vR 137]) (g' := q15.2) k166_64 rfl rfl ?_
            refine q_s (pc' := 66) (ls' := [vR 137, vI l1, vI l2, vI l3, vI l4, vI 1]) (st' := [vI l1, vR 137]) (g' := q15.2) k166_65 rfl rfl ?_
            refine q_s (pc' := 68) (ls' := [vR 137, vI l1, vI l2, vI l3, vI l4, vI 1]) (st' := [vI l4, vI l1, vR 137]) (g' := q15.2) k166_66 rfl rfl ?_
            refine q_callI (ls0 := [vR 137, vI l1, vI l4]) (rest := []) (pc' := 71) rfl k166_68 rfl (hy4 rfl rfl rfl rfl) rfl rfl hq_165 rfl (fun q21 => ?_)
            refine q_if (P := q21.1 = 0) (t := 83) (pc' := 74) k166_71 Iff.rfl rfl rfl (fun h22 => ?_) (fun h22 => ?_)
            · refine q_s (pc' := 84) (ls' := [vR 137, vI l1, vI l2, vI l3, vI l4, vI 1]) (st' := [vI 0]) (g' := q21.2) k166_83 rfl rfl ?_
              refine q_s (pc' := 85) (ls' := [vR 137, vI l1, vI l2, vI 0, vI l4, vI 1]) (st' := []) (g' := q21.2) k166_84 rfl rfl ?_
              refine q_s (pc' := 88) (ls' := [vR 137, vI l1, vI l2, vI 0, vI (iw (l4 + 1)), vI 1]) (st' := []) (g' := q21.2) k166_85 rfl rfl ?_
              refine q_s (pc' := 5) (ls' := [vR 137, vI l1, vI l2, vI 0, vI (iw (l4 + 1)), vI 1]) (st' := []) (g' := q21.2) k166_88 rfl rfl ?_
              rfl
            · refine q_s (pc' := 76) (ls' := [vR 137, vI l1, vI l2, vI l3, vI l4, vI 1]) (st' := [vI 1]) (g' := q21.2) k166_74 rfl rfl ?_
              refine q_s (pc' := 79) (ls' := [vR 137, vI l1, vI l2, vI l3, vI l4, vI 1]) (st' := []) (g' := q21.2) k166_76 rfl rfl ?_
              refine q_s (pc' := 80) (ls' := [vR 137, vI l1, vI l2, vI l3, vI l4, vI 1]) (st' := [vI 1]) (g' := q21.2) k166_79 rfl rfl ?_
              refine q_s (pc' := 84) (ls' := [vR 137, vI l1, vI l2, vI l3, vI l4, vI 1]) (st' := [vI 1]) (g' := q21.2) k166_80 rfl rfl ?_
              refine q_s (pc' := 85) (ls' := [vR 137, vI l1, vI l2, vI 1, vI l4, vI 1]) (st' := []) (g' := q21.2) k166_84 rfl rfl ?_
              refine q_s (pc' := 88) (ls' := [vR 137, vI l1, vI l2, vI 1, vI (iw (l4 + 1)), vI 1]) (st' := []) (g' := q21.2) k166_85 rfl rfl ?_
              refine q_s (pc' := 5) (ls' := [vR 137, vI l1, vI l2, vI 1, vI (iw (l4 + 1)), vI 1]) (st' := []) (g' := q21.2) k166_88 rfl rfl ?_
              rfl
set_option maxHeartbeats 4000000 in
theorem jM_isClear_eq (L : Nat) (a1 : Int) (g : AMem) : jM_isClear L a1 g = jM_isClear_4 L a1 1 0 g := by
  unfold jM_isClear
  refine q_s (pc' := 1) (ls' := [vR 137, vI a1, vU, vU]) (st' := [vI 1]) (g' := g) k167_0 rfl rfl ?_
  refine q_s (pc' := 2) (ls' := [vR 137, vI a1, vI 1, vU]) (st' := []) (g' := g) k167_1 rfl rfl ?_
  refine q_s (pc' := 3) (ls' := [vR 137, vI a1, vI 1, vU]) (st' := [vI 0]) (g' := g) k167_2 rfl rfl ?_
  refine q_s (pc' := 4) (ls' := [vR 137, vI a1, vI 1, vI 0]) (st' := []) (g' := g) k167_3 rfl rfl ?_
  rfl
set_option maxHeartbeats 4000000 in
theorem jM_isClear_4_eq (L : Nat) (l1 : Int) (l2 : Int) (l3 : Int) (g : AMem) : jM_isClear_4 L l1 l2 l3 g = (jM_manyOf L l1 g).bind (fun q1 => if q1.1 ≤ l3 then (if l2 = 0 ∨ l2 = 1 then some (l2, q1.2) else none) else ((jM_moves L l1 l3 q1.2).bind (fun q3 => if q3.1 = 0 then (jM_isClear_4 L l1 l2 (iw (l3 + 1)) q3.2) else (if l2 = 0 then (jM_isClear_4 L l1 0 (iw (l3 + 1)) q3.2) else ((jM_parameterOf L l1 l3 q3.2).bind (fun q6 => (jM_isAcross L l1 q6.1 q6.2).bind (fun q7 => if q7.1 ≠ 0 then (jM_isClear_4 L l1 0 (iw (l3 + 1)) q7.2) else ((jM_givenOf L l1 l3 q7.2).bind (fun q9 => if q9.1 < 0 then (jM_isClear_4 L l1 1 (iw (l3 + 1)) q9.2) else ((jM_givenOf L l1 l3 q9.2).bind (fun q11 => (jM_isAcross L l1 q11.1 q11.2).bind (fun q12 => if q12.1 ≠ 0 then (jM_isClear_4 L l1 0 (iw (l3 + 1)) q12.2) else (jM_isClear_4 L l1 1 (iw (l3 + 1)) q12.2))))))))))))) := by
  unfold jM_isClear_4
  refine q_s (pc' := 5) (ls' := [vR 137, vI l1, vI l2, vI l3]) (st' := [vI l3]) (g' := g) k167_4 rfl rfl ?_
  refine q_s (pc' := 6) (ls' := [vR 137, vI l1, vI l2, vI l3]) (st' := [vR 137, vI l3]) (g' := g) k167_5 rfl rfl ?_
  refine q_s (pc' := 7) (ls' := [vR 137, vI l1, vI l2, vI l3]) (st' := [vI l1, vR 137, vI l3]) (g' := g) k167_6 rfl rfl ?_
  refine q_callI (ls0 := [vR 137, vI l1]) (rest := [vI l3]) (pc' := 10) rfl k167_7 rfl (hy4 rfl rfl rfl rfl) rfl rfl hq_148 rfl (fun q1 => ?_)
  refine q_ic (P := q1.1 ≤ l3) (t := 75) (pc' := 13) k167_10 Iff.rfl rfl rfl (fun h2 => ?_) (fun h2 => ?_)
  · refine q_s (pc' := 76) (ls' := [vR 137, vI l1, vI l2, vI l3]) (st' := [vI l2]) (g' := q1.2) k167_75 rfl rfl ?_
    exact q_eb rfl k167_76 rfl rfl
  · refine q_s (pc' := 14) (ls' := [vR 137, vI l1, vI l2, vI l3]) (st' := [vR 137]) (g' := q1.2) k167_13 rfl rfl ?_
    refine q_s (pc' := 15) (ls' := [vR 137, vI l1, vI l2, vI l3]) (st' := [vI l1, vR 137]) (g' := q1.2) k167_14 rfl rfl ?_
    refine q_s (pc' := 16) (ls' := [vR 137, vI l1, vI l2, vI l3]) (st' := [vI l3, vI l1, vR 137]) (g' := q1.2) k167_15 rfl rfl ?_
    refine q_callI (ls0 := [vR 137, vI l1, vI l3]) (rest := []) (pc' := 19) rfl k167_16 rfl (hy4 rfl rfl rfl rfl) rfl rfl hq_165 rfl (fun q3 => ?_)
    refine q_if (P := q3.1 = 0) (t := 69) (pc' := 22) k167_19 Iff.rfl rfl rfl (fun h4 => ?_) (fun h4 => ?_)
    · refine q_s (pc' := 72) (ls' := [vR 137, vI l1, vI l2, vI (iw (l3 + 1))]) (st' := []) (g' := q3.2) k167_69 rfl rfl ?_
      refine q_s (pc' := 4) (ls' := [vR 137, vI l1, vI l2, vI (iw (l3 + 1))]) (st' := []) (g' := q3.2) k167_72 rfl rfl ?_
      rfl
    · refine q_s (pc' := 23) (ls' := [vR 137, vI l1, vI l2, vI l3]) (st' := [vI l2]) (g' := q3.2) k167_22 rfl rfl ?_
      refine q_if (P := l2 = 0) (t := 67) (pc' := 26) k167_23 Iff.rfl rfl rfl (fun h5 => ?_) (fun h5 => ?_)
      · refine q_s (pc' := 68) (ls' := [vR 137, vI l1, vI l2, vI l3]) (st' := [vI 0]) (g' := q3.2) k167_67 rfl rfl ?_
        refine q_s (pc' := 69) (ls' := [vR 137, vI l1, vI 0, vI l3]) (st' := []) (g' := q3.2) k167_68 rfl rfl ?_
        refine q_s (pc' := 72) (ls' := [vR 137, vI l1, vI 0, vI (iw (l3 + 1))]) (st' := []) (g' := q3.2) k167_69 rfl rfl ?_
        refine q_s (pc' := 4) (ls' := [vR 137, vI l1, vI 0, vI (iw (l3 + 1))]) (st' := []) (g' := q3.2) k167_72 rfl rfl ?_
        rfl
      · refine q_s (pc' := 27) (ls' := [vR 137, vI l1, vI l2, vI l3]) (st' := [vR 137]) (g' := q3.2) k167_26 rfl rfl ?_
        refine q_s (pc' := 28) (ls' := [vR 137, vI l1, vI l2, vI l3]) (st' := [vI l1, vR 137]) (g' := q3.2) k167_27 rfl rfl ?_
        refine q_s (pc' := 29) (ls' := [vR 137, vI l1, vI l2, vI l3]) (st' := [vR 137, vI l1, vR 137]) (g' := q3.2) k167_28 rfl rfl ?_
        refine q_s (pc' := 30) (ls' := [vR 137, vI l1, vI l2, vI l3]) (st' := [vI l1, vR 137, vI l1, vR 137]) (g' := q3.2) k167_29 rfl rfl ?_
        refine q_s (pc' := 31) (ls' := [vR 137, vI l1, vI l2, vI l3]) (st' := [vI l3, vI l1, vR 137, vI l1, vR 137]) (g' := q3.2) k167_30 rfl rfl ?_
        refine q_callI (ls0 := [vR 137, vI l1, vI l3]) (rest := [vI l1, vR 137]) (pc' := 34) rfl k167_31 rfl (hy4 rfl rfl rfl rfl) rfl rfl hq_147 rfl (fun q6 => ?_)
        refine q_callI (ls0 := [vR 137, vI l1, vI q6.1, vU, vU, vU]) (rest := []) (pc' := 37) rfl k167_34 rfl (hy4 rfl rfl rfl rfl) rfl rfl hq_166 rfl (fun q7 => ?_)
        refine q_if (P := q7.1 ≠ 0) (t := 67) (pc' := 40) k167_37 Iff.rfl rfl rfl (fun h8 => ?_) (fun h8 => ?_)
        · refine q_s (pc' := 68) (ls' := [vR 137, vI l1, vI l2, vI l3]) (st' := [vI 0]) (g' := q7.2) k167_67 rfl rfl ?_
          refine q_s (pc' := 69) (ls' := [vR 137, vI l1, vI 0, vI l3]) (st' := []) (g' := q7.2) k167_68 rfl rfl ?_
          refine q_s (pc' := 72) (ls' := [vR 137, vI l1, vI 0, vI (iw (l3 + 1))]) (st' := []) (g' := q7.2) k167_69 rfl rfl ?_
          refine q_s (pc' := 4) (ls' := [vR 137, vI l1, vI 0, vI (iw (l3 + 1))]) (st' := []) (g' := q7.2) k167_72 rfl rfl ?_
          rfl
        · refine q_s (pc' := 41) (ls' := [vR 137, vI l1, vI l2, vI l3]) (st' := [vR 137]) (g' := q7.2) k167_40 rfl rfl ?_
          refine q_s (pc' := 42) (ls' := [vR 137, vI l1, vI l2, vI l3]) (st' := [vI l1, vR 137]) (g' := q7.2) k167_41 rfl rfl ?_
          refine q_s (pc' := 43) (ls' := [vR 137, vI l1, vI l2, vI l3]) (st' := [vI l3, vI l1, vR 137]) (g' := q7.2) k167_42 rfl rfl ?_
          refine q_callI (ls0 := [vR 137, vI l1, vI l3]) (rest := []) (pc' := 46) rfl k167_43 rfl (hy4 rfl rfl rfl rfl) rfl rfl hq_149 rfl (fun q9 => ?_)
          refine q_if (P := q9.1 < 0) (t := 63) (pc' := 49) k167_46 Iff.rfl rfl rfl (fun h10 => ?_) (fun h10 => ?_)
          · refine q_s (pc' := 64) (ls' := [vR 137, vI l1, vI l2, vI l3]) (st' := [vI 1]) (g' := q9.2) k167_63 rfl rfl ?_
            refine q_s (pc' := 68) (ls' := [vR 137, vI l1, vI l2, vI l3]) (st' := [vI 1]) (g' := q9.2) k167_64 rfl rfl ?_
            refine q_s (pc' := 69) (ls' := [vR 137, vI l1, vI 1, vI l3]) (st' := []) (g' := q9.2) k167_68 rfl rfl ?_
            refine q_s (pc' := 72) (ls' := [vR 137, vI l1, vI 1, vI (iw (l3 + 1))]) (st' := []) (g' := q9.2) k167_69 rfl rfl ?_
            refine q_s (pc' := 4) (ls' := [vR 137, vI l1, vI 1, vI (iw (l3 + 1))]) (st' := []) (g' := q9.2) k167_72 rfl rfl ?_
            rfl
          · refine q_s (pc' := 50) (ls' := [vR 137, vI l1, vI l2, vI l3]) (st' := [vR 137]) (g' := q9.2) k167_49 rfl rfl ?_
            refine q_s (pc' := 51) (ls' := [vR 137, vI l1, vI l2, vI l3]) (st' := [vI l1, vR 137]) (g' := q9.2) k167_50 rfl rfl ?_
            refine q_s (pc' := 52) (ls' := [vR 137, vI l1, vI l2, vI l3]) (st' := [vR 137, vI l1, vR 137]) (g' := q9.2) k167_51 rfl rfl ?_
            refine q_s (pc' := 53) (ls' := [vR 137, vI l1, vI l2, vI l3]) (st' := [vI l1, vR 137, vI l1, vR 137]) (g' := q9.2) k167_52 rfl rfl ?_
            refine q_s (pc' := 54) (ls' := [vR 137, vI l1, vI l2, vI l3]) (st' := [vI l3, vI l1, vR 137, vI l1, vR 137]) (g' := q9.2) k167_53 rfl rfl ?_
            refine q_callI (ls0 := [vR 137, vI l1, vI l3]) (rest := [vI l1, vR 137]) (pc' := 57) rfl k167_54 rfl (hy4 rfl rfl rfl rfl) rfl rfl hq_149 rfl (fun q11 => ?_)
            refine q_callI (ls0 := [vR 137, vI l1, vI q11.1, vU, vU, vU]) (rest := []) (pc' := 60) rfl k167_57 rfl (hy4 rfl rfl rfl rfl) rfl rfl hq_166 rfl (fun q12 => ?_)
            refine q_if (P := q12.1 ≠ 0) (t := 67) (pc' := 63) k167_60 Iff.rfl rfl rfl (fun h13 => ?_) (fun h13 => ?_)
            · refine q_s (pc' := 68) (ls' := [vR 137, vI l1, vI l2, vI l3]) (st' := [vI 0]) (g' := q12.2) k167_67 rfl rfl ?_
              refine q_s (pc' := 69) (ls' := [vR 137, vI l1, vI 0, vI l3]) (st' := []) (g' := q12.2) k167_68 rfl rfl ?_
              refine q_s (pc' := 72) (ls' := [vR 137, vI l1, vI 0, vI (iw (l3 + 1))]) (st' := []) (g' := q12.2) k167_69 rfl rfl ?_
              refine q_s (pc' := 4) (ls' := [vR 137, vI l1, vI 0, vI (iw (l3 + 1))]) (st' := []) (g' := q12.2) k167_72 rfl rfl ?_
              rfl
            · refine q_s (pc' := 64) (ls' := [vR 137, vI l1, vI l2, vI l3]) (st' := [vI 1]) (g' := q12.2) k167_63 rfl rfl ?_
              refine q_s (pc' := 68) (ls' := [vR 137, vI l1, vI l2, vI l3]) (st' := [vI 1]) (g' := q12.2) k167_64 rfl rfl ?_
              refine q_s (pc' := 69) (ls' := [vR 137, vI l1, vI 1, vI l3]) (st' := []) (g' := q12.2) k167_68 rfl rfl ?_
              refine q_s (pc' := 72) (ls' := [vR 137, vI l1, vI 1, vI (iw (l3 + 1))]) (st' := []) (g' := q12.2) k167_69 rfl rfl ?_
              refine q_s (pc' := 4) (ls' := [vR 137, vI l1, vI 1, vI (iw (l3 + 1))]) (st' := []) (g' := q12.2) k167_72 rfl rfl ?_
              rfl
set_option maxHeartbeats 4000000 in
theorem jM_of_eq (L : Nat) (a1 : Int) (a2 : Int) (g : AMem) : jM_of L a1 a2 g = (jM_isEdge L a1 g).bind (fun q1 => if q1.1 = 0 then ((jM_bad L q1.2).bind (fun q3 => some (q3.1, q3.2))) else ((jM_in L a2 0 4 q1.2).bind (fun q4 => if q4.1 ≠ 0 then (if a2 = 0 then (if 0 ≤ a1 ∧ a1 < 16 then (some (q4.2 141 a1, q4.2)) else none) else (if a2 = 1 then (if 0 ≤ a1 ∧ a1 < 16 then (some (q4.2 142 a1, q4.2)) else none) else (if a2 = 2 then (if 0 ≤ a1 ∧ a1 < 16 then (some (q4.2 143 a1, q4.2)) else none) else (if a2 = 3 then ((jM_isClear L a1 q4.2).bind (fun q13 => if q13.1 = 0 then (some (0, q13.2)) else (some (1, q13.2)))) else ((jM_whereOf L a1 q4.2).bind (fun q15 => some (q15.1, q15.2))))))) else ((jM_bad L q4.2).bind (fun q16 => some (q16.1, q16.2)))))) := by
  unfold jM_of
  refine q_s (pc' := 1) (ls' := [vR 137, vI a1, vI a2]) (st' := [vR 137]) (g' := g) k168_0 rfl rfl ?_
  refine q_s (pc' := 2) (ls' := [vR 137, vI a1, vI a2]) (st' := [vI a1, vR 137]) (g' := g) k168_1 rfl rfl ?_
  refine q_callI (ls0 := [vR 137, vI a1]) (rest := []) (pc' := 5) rfl k168_2 rfl (hy4 rfl rfl rfl rfl) rfl rfl hq_146 rfl (fun q1 => ?_)
  refine q_if (P := q1.1 = 0) (t := 17) (pc' := 8) k168_5 Iff.rfl rfl rfl (fun h2 => ?_) (fun h2 => ?_)
  · refine q_s (pc' := 18) (ls' := [vR 137, vI a1, vI a2]) (st' := [vR 137]) (g' := q1.2) k168_17 rfl rfl ?_
    refine q_callI (ls0 := [vR 137]) (rest := []) (pc' := 21) rfl k168_18 rfl (hy4 rfl rfl rfl rfl) rfl rfl hq_135 rfl (fun q3 => ?_)
    exact q_e k168_21 rfl rfl rfl
  · refine q_s (pc' := 9) (ls' := [vR 137, vI a1, vI a2]) (st' := [vI a2]) (g' := q1.2) k168_8 rfl rfl ?_
    refine q_s (pc' := 10) (ls' := [vR 137, vI a1, vI a2]) (st' := [vI 0, vI a2]) (g' := q1.2) k168_9 rfl rfl ?_
    refine q_s (pc' := 11) (ls' := [vR 137, vI a1, vI a2]) (st' := [vI 4, vI 0, vI a2]) (g' := q1.2) k168_10 rfl rfl ?_
    refine q_callI (ls0 := [vI a2, vI 0, vI 4]) (rest := []) (pc' := 14) rfl k168_11 rfl (hy4 rfl rfl rfl rfl) rfl rfl hq_138 rfl (fun q4 => ?_)
    refine q_if (P := q4.1 ≠ 0) (t := 22) (pc' := 17) k168_14 Iff.rfl rfl rfl (fun h5 => ?_) (fun h5 => ?_)
    · refine q_s (pc' := 23) (ls' := [vR 137, vI a1, vI a2]) (st' := [vI a2]) (g' := q4.2) k168_22 rfl rfl ?_
      refine q_by (P := a2 = 0) (fun h6 => ?_) (fun h6 => ?_)
      · refine q_s (pc' := 52) (ls' := [vR 137, vI a1, vI a2]) (st' := []) (g' := q4.2) k168_23 rfl (e_top h6 rfl) ?_
        refine q_s (pc' := 53) (ls' := [vR 137, vI a1, vI a2]) (st' := [vR 137]) (g' := q4.2) k168_52 rfl rfl ?_
        refine q_getF (r := 141) (pc' := 56) k168_53 rfl rfl rfl rfl ?_
        refine q_s (pc' := 57) (ls' := [vR 137, vI a1, vI a2]) (st' := [vI a1, vR 141]) (g' := q4.2) k168_56 rfl rfl ?_
        refine q_iald (n := 16) (pc' := 58) rfl k168_57 rfl rfl (fun h7 => ?_)
        exact q_e k168_58 rfl rfl rfl
      · skip
        refine q_by (P := a2 = 1) (fun h8 => ?_) (fun h8 => ?_)
        · refine q_s (pc' := 59) (ls' := [vR 137, vI a1, vI a2]) (st' := []) (g' := q4.2) k168_23 rfl (e_top h8 rfl) ?_
          refine q_s (pc' := 60) (ls' := [vR 137, vI a1, vI a2]) (st' := [vR 137]) (g' := q4.2) k168_59 rfl rfl ?_
          refine q_getF (r := 142) (pc' := 63) k168_60 rfl rfl rfl rfl ?_
          refine q_s (pc' := 64) (ls' := [vR 137, vI a1, vI a2]) (st' := [vI a1, vR 142]) (g' := q4.2) k168_63 rfl rfl ?_
          refine q_iald (n := 16) (pc' := 65) rfl k168_64 rfl rfl (fun h9 => ?_)
          exact q_e k168_65 rfl rfl rfl
        · skip
          refine q_by (P := a2 = 2) (fun h10 => ?_) (fun h10 => ?_)
          · refine q_s (pc' := 66) (ls' := [vR 137, vI a1, vI a2]) (st' := []) (g' := q4.2) k168_23 rfl (e_top h10 rfl) ?_
            refine q_s (pc' := 67) (ls' := [vR 137, vI a1, vI a2]) (st' := [vR 137]) (g' := q4.2) k168_66 rfl rfl ?_
            refine q_getF (r := 143) (pc' := 70) k168_67 rfl rfl rfl rfl ?_
            refine q_s (pc' := 71) (ls' := [vR 137, vI a1, vI a2]) (st' := [vI a1, vR 143]) (g' := q4.2) k168_70 rfl rfl ?_
            refine q_iald (n := 16) (pc' := 72) rfl k168_71 rfl rfl (fun h11 => ?_)
            exact q_e k168_72 rfl rfl rfl
          · skip
            refine q_by (P := a2 = 3) (fun h12 => ?_) (fun h12 => ?_)
            · refine q_s (pc' := 73) (ls' := [vR 137, vI a1, vI a2]) (st' := []) (g' := q4.2) k168_23 rfl (e_top h12 rfl) ?_
              refine q_s (pc' := 74) (ls' := [vR 137, vI a1, vI a2]) (st' := [vR 137]) (g' := q4.2) k168_73 rfl rfl ?_
              refine q_s (pc' := 75) (ls' := [vR 137, vI a1, vI a2]) (st' := [vI a1, vR 137]) (g' := q4.2) k168_74 rfl rfl ?_
              refine q_callI (ls0 := [vR 137, vI a1, vU, vU]) (rest := []) (pc' := 78) rfl k168_75 rfl (hy4 rfl rfl rfl rfl) rfl rfl hq_167 rfl (fun q13 => ?_)
              refine q_if (P := q13.1 = 0) (t := 85) (pc' := 81) k168_78 Iff.rfl rfl rfl (fun h14 => ?_) (fun h14 => ?_)
              · refine q_s (pc' := 86) (ls' := [vR 137, vI a1, vI a2]) (st' := [vI 0]) (g' := q13.2) k168_85 rfl rfl ?_
                exact q_e k168_86 rfl rfl rfl
              · refine q_s (pc' := 82) (ls' := [vR 137, vI a1, vI a2]) (st' := [vI 1]) (g' := q13.2) k168_81 rfl rfl ?_
                refine q_s (pc' := 86) (ls' := [vR 137, vI a1, vI a2]) (st' := [vI 1]) (g' := q13.2) k168_82 rfl rfl ?_
                exact q_e k168_86 rfl rfl rfl
            · skip
              refine q_s (pc' := 87) (ls' := [vR 137, vI a1, vI a2]) (st' := []) (g' := q4.2) k168_23 rfl (e_tsw (by omega) (by decide)) ?_
              refine q_s (pc' := 88) (ls' := [vR 137, vI a1, vI a2]) (st' := [vR 137]) (g' := q4.2) k168_87 rfl rfl ?_
              refine q_s (pc' := 89) (ls' := [vR 137, vI a1, vI a2]) (st' := [vI a1, vR 137]) (g' := q4.2) k168_88 rfl rfl ?_
              refine q_callI (ls0 := [vR 137, vI a1]) (rest := []) (pc' := 92) rfl k168_89 rfl (hy4 rfl rfl rfl rfl) rfl rfl hq_164 rfl (fun q15 => ?_)
              exact q_e k168_92 rfl rfl rfl
    · refine q_s (pc' := 18) (ls' := [vR 137, vI a1, vI a2]) (st' := [vR 137]) (g' := q4.2) k168_17 rfl rfl ?_
      refine q_callI (ls0 := [vR 137]) (rest := []) (pc' := 21) rfl k168_18 rfl (hy4 rfl rfl rfl rfl) rfl rfl hq_135 rfl (fun q16 => ?_)
      exact q_e k168_21 rfl rfl rfl
set_option maxHeartbeats 4000000 in
theorem jM_about_eq (L : Nat) (a1 : Int) (a2 : Int) (g : AMem) : jM_about L a1 a2 g = (jM_isBlock L a1 g).bind (fun q1 => if q1.1 = 0 then ((jM_bad L q1.2).bind (fun q3 => some (q3.1, q3.2))) else ((jM_in L a2 0 2 q1.2).bind (fun q4 => if q4.1 ≠ 0 then (if a2 ≠ 0 then (if a2 ≠ 1 then ((jM_edgesTo L a1 q4.2).bind (fun q8 => some (q8.1, q8.2))) else ((jM_edgesFrom L a1 q4.2).bind (fun q9 => some (q9.1, q9.2)))) else (if 0 ≤ a1 ∧ a1 < 10 then (some (q4.2 139 a1, q4.2)) else none)) else ((jM_bad L q4.2).bind (fun q11 => some (q11.1, q11.2)))))) := by
  unfold jM_about
  refine q_s (pc' := 1) (ls' := [vR 137, vI a1, vI a2]) (st' := [vR 137]) (g' := g) k169_0 rfl rfl ?_
  refine q_s (pc' := 2) (ls' := [vR 137, vI a1, vI a2]) (st' := [vI a1, vR 137]) (g' := g) k169_1 rfl rfl ?_
  refine q_callI (ls0 := [vR 137, vI a1]) (rest := []) (pc' := 5) rfl k169_2 rfl (hy4 rfl rfl rfl rfl) rfl rfl hq_145 rfl (fun q1 => ?_)
  refine q_if (P := q1.1 = 0) (t := 17) (pc' := 8) k169_5 Iff.rfl rfl rfl (fun h2 => ?_) (fun h2 => ?_)
  · refine q_s (pc' := 18) (ls' := [vR 137, vI a1, vI a2]) (st' := [vR 137]) (g' := q1.2) k169_17 rfl rfl ?_
    refine q_callI (ls0 := [vR 137]) (rest := []) (pc' := 21) rfl k169_18 rfl (hy4 rfl rfl rfl rfl) rfl rfl hq_135 rfl (fun q3 => ?_)
    exact q_e k169_21 rfl rfl rfl
  · refine q_s (pc' := 9) (ls' := [vR 137, vI a1, vI a2]) (st' := [vI a2]) (g' := q1.2) k169_8 rfl rfl ?_
    refine q_s (pc' := 10) (ls' := [vR 137, vI a1, vI a2]) (st' := [vI 0, vI a2]) (g' := q1.2) k169_9 rfl rfl ?_
    refine q_s (pc' := 11) (ls' := [vR 137, vI a1, vI a2]) (st' := [vI 2, vI 0, vI a2]) (g' := q1.2) k169_10 rfl rfl ?_
    refine q_callI (ls0 := [vI a2, vI 0, vI 2]) (rest := []) (pc' := 14) rfl k169_11 rfl (hy4 rfl rfl rfl rfl) rfl rfl hq_138 rfl (fun q4 => ?_)
    refine q_if (P := q4.1 ≠ 0) (t := 22) (pc' := 17) k169_14 Iff.rfl rfl rfl (fun h5 => ?_) (fun h5 => ?_)
    · refine q_s (pc' := 23) (ls' := [vR 137, vI a1, vI a2]) (st' := [vI a2]) (g' := q4.2) k169_22 rfl rfl ?_
      refine q_if (P := a2 ≠ 0) (t := 35) (pc' := 26) k169_23 Iff.rfl rfl rfl (fun h6 => ?_) (fun h6 => ?_)
      · refine q_s (pc' := 36) (ls' := [vR 137, vI a1, vI a2]) (st' := [vI a2]) (g' := q4.2) k169_35 rfl rfl ?_
        refine q_s (pc' := 37) (ls' := [vR 137, vI a1, vI a2]) (st' := [vI 1, vI a2]) (g' := q4.2) k169_36 rfl rfl ?_
        refine q_ic (P := a2 ≠ 1) (t := 48) (pc' := 40) k169_37 Iff.rfl rfl rfl (fun h7 => ?_) (fun h7 => ?_)
        · refine q_s (pc' := 49) (ls' := [vR 137, vI a1, vI a2]) (st' := [vR 137]) (g' := q4.2) k169_48 rfl rfl ?_
          refine q_s (pc' := 50) (ls' := [vR 137, vI a1, vI a2]) (st' := [vI a1, vR 137]) (g' := q4.2) k169_49 rfl rfl ?_
          refine q_callI (ls0 := [vR 137, vI a1, vU, vU]) (rest := []) (pc' := 53) rfl k169_50 rfl (hy4 rfl rfl rfl rfl) rfl rfl hq_163 rfl (fun q8 => ?_)
          exact q_e k169_53 rfl rfl rfl
        · refine q_s (pc' := 41) (ls' := [vR 137, vI a1, vI a2]) (st' := [vR 137]) (g' := q4.2) k169_40 rfl rfl ?_
          refine q_s (pc' := 42) (ls' := [vR 137, vI a1, vI a2]) (st' := [vI a1, vR 137]) (g' := q4.2) k169_41 rfl rfl ?_
          refine q_callI (ls0 := [vR 137, vI a1, vU, vU]) (rest := []) (pc' := 45) rfl k169_42 rfl (hy4 rfl rfl rfl rfl) rfl rfl hq_162 rfl (fun q9 => ?_)
          refine q_s (pc' := 53) (ls' := [vR 137, vI a1, vI a2]) (st' := [vI q9.1]) (g' := q9.2) k169_45 rfl rfl ?_
          exact q_e k169_53 rfl rfl rfl
      · refine q_s (pc' := 27) (ls' := [vR 137, vI a1, vI a2]) (st' := [vR 137]) (g' := q4.2) k169_26 rfl rfl ?_
        refine q_getF (r := 139) (pc' := 30) k169_27 rfl rfl rfl rfl ?_
        refine q_s (pc' := 31) (ls' := [vR 137, vI a1, vI a2]) (st' := [vI a1, vR 139]) (g' := q4.2) k169_30 rfl rfl ?_
        refine q_iald (n := 10) (pc' := 32) rfl k169_31 rfl rfl (fun h10 => ?_)
        refine q_s (pc' := 53) (ls' := [vR 137, vI a1, vI a2]) (st' := [vI (q4.2 139 a1)]) (g' := q4.2) k169_32 rfl rfl ?_
        exact q_e k169_53 rfl rfl rfl
    · refine q_s (pc' := 18) (ls' := [vR 137, vI a1, vI a2]) (st' := [vR 137]) (g' := q4.2) k169_17 rfl rfl ?_
      refine q_callI (ls0 := [vR 137]) (rest := []) (pc' := 21) rfl k169_18 rfl (hy4 rfl rfl rfl rfl) rfl rfl hq_135 rfl (fun q11 => ?_)
      exact q_e k169_21 rfl rfl rfl
set_option maxHeartbeats 4000000 in
theorem jM_region_eq (L : Nat) (a1 : Int) (a2 : Int) (g : AMem) : jM_region L a1 a2 g = (jM_isBlock L a1 g).bind (fun q1 => if q1.1 = 0 then ((jM_bad L q1.2).bind (fun q3 => some (q3.1, q3.2))) else (if 0 ≤ a2 then (if 0 ≤ a1 ∧ a1 < 10 then (if q1.2 139 a1 ≤ a2 then (some ((-201), q1.2)) else (if 0 ≤ iw ((iw (6 * a1)) + a2) ∧ iw ((iw (6 * a1)) + a2) < 60 then (some (q1.2 140 (iw ((iw (6 * a1)) + a2)), q1.2)) else none)) else none) else ((jM_bad L q1.2).bind (fun q8 => some (q8.1, q8.2))))) := by
  unfold jM_region
  refine q_s (pc' := 1) (ls' := [vR 137, vI a1, vI a2]) (st' := [vR 137]) (g' := g) k170_0 rfl rfl ?_
  refine q_s (pc' := 2) (ls' := [vR 137, vI a1, vI a2]) (st' := [vI a1, vR 137]) (g' := g) k170_1 rfl rfl ?_
  refine q_callI (ls0 := [vR 137, vI a1]) (rest := []) (pc' := 5) rfl k170_2 rfl (hy4 rfl rfl rfl rfl) rfl rfl hq_145 rfl (fun q1 => ?_)
  refine q_if (P := q1.1 = 0) (t := 12) (pc' := 8) k170_5 Iff.rfl rfl rfl (fun h2 => ?_) (fun h2 => ?_)
  · refine q_s (pc' := 13) (ls' := [vR 137, vI a1, vI a2]) (st' := [vR 137]) (g' := q1.2) k170_12 rfl rfl ?_
    refine q_callI (ls0 := [vR 137]) (rest := []) (pc' := 16) rfl k170_13 rfl (hy4 rfl rfl rfl rfl) rfl rfl hq_135 rfl (fun q3 => ?_)
    exact q_e k170_16 rfl rfl rfl
  · refine q_s (pc' := 9) (ls' := [vR 137, vI a1, vI a2]) (st' := [vI a2]) (g' := q1.2) k170_8 rfl rfl ?_
    refine q_if (P := 0 ≤ a2) (t := 17) (pc' := 12) k170_9 Iff.rfl rfl rfl (fun h4 => ?_) (fun h4 => ?_)
    · refine q_s (pc' := 18) (ls' := [vR 137, vI a1, vI a2]) (st' := [vI a2]) (g' := q1.2) k170_17 rfl rfl ?_
      refine q_s (pc' := 19) (ls' := [vR 137, vI a1, vI a2]) (st' := [vR 137, vI a2]) (g' := q1.2) k170_18 rfl rfl ?_
      refine q_getF (r := 139) (pc' := 22) k170_19 rfl rfl rfl rfl ?_
      refine q_s (pc' := 23) (ls' := [vR 137, vI a1, vI a2]) (st' := [vI a1, vR 139, vI a2]) (g' := q1.2) k170_22 rfl rfl ?_
      refine q_iald (n := 10) (pc' := 24) rfl k170_23 rfl rfl (fun h5 => ?_)
      refine q_ic (P := q1.2 139 a1 ≤ a2) (t := 41) (pc' := 27) k170_24 Iff.rfl rfl rfl (fun h6 => ?_) (fun h6 => ?_)
      · refine q_s (pc' := 44) (ls' := [vR 137, vI a1, vI a2]) (st' := [vI (-201)]) (g' := q1.2) k170_41 rfl rfl ?_
        exact q_e k170_44 rfl rfl rfl
      · refine q_s (pc' := 28) (ls' := [vR 137, vI a1, vI a2]) (st' := [vR 137]) (g' := q1.2) k170_27 rfl rfl ?_
        refine q_getF (r := 140) (pc' := 31) k170_28 rfl rfl rfl rfl ?_
        refine q_s (pc' := 33) (ls' := [vR 137, vI a1, vI a2]) (st' := [vI 6, vR 140]) (g' := q1.2) k170_31 rfl rfl ?_
        refine q_s (pc' := 34) (ls' := [vR 137, vI a1, vI a2]) (st' := [vI a1, vI 6, vR 140]) (g' := q1.2) k170_33 rfl rfl ?_
        refine q_s (pc' := 35) (ls' := [vR 137, vI a1, vI a2]) (st' := [vI (iw (6 * a1)), vR 140]) (g' := q1.2) k170_34 rfl rfl ?_
        refine q_s (pc' := 36) (ls' := [vR 137, vI a1, vI a2]) (st' := [vI a2, vI (iw (6 * a1)), vR 140]) (g' := q1.2) k170_35 rfl rfl ?_
        refine q_s (pc' := 37) (ls' := [vR 137, vI a1, vI a2]) (st' := [vI (iw ((iw (6 * a1)) + a2)), vR 140]) (g' := q1.2) k170_36 rfl rfl ?_
        refine q_iald (n := 60) (pc' := 38) rfl k170_37 rfl rfl (fun h7 => ?_)
        refine q_s (pc' := 44) (ls' := [vR 137, vI a1, vI a2]) (st' := [vI (q1.2 140 (iw ((iw (6 * a1)) + a2)))]) (g' := q1.2) k170_38 rfl rfl ?_
        exact q_e k170_44 rfl rfl rfl
    · refine q_s (pc' := 13) (ls' := [vR 137, vI a1, vI a2]) (st' := [vR 137]) (g' := q1.2) k170_12 rfl rfl ?_
      refine q_callI (ls0 := [vR 137]) (rest := []) (pc' := 16) rfl k170_13 rfl (hy4 rfl rfl rfl rfl) rfl rfl hq_135 rfl (fun q8 => ?_)
      exact q_e k170_16 rfl rfl rfl
set_option maxHeartbeats 4000000 in
theorem jM_given_eq (L : Nat) (a1 : Int) (a2 : Int) (g : AMem) : jM_given L a1 a2 g = (jM_isEdge L a1 g).bind (fun q1 => if q1.1 = 0 then ((jM_bad L q1.2).bind (fun q3 => some (q3.1, q3.2))) else (if 0 ≤ a2 then ((jM_manyOf L a1 q1.2).bind (fun q5 => if q5.1 ≤ a2 then (some ((-201), q5.2)) else ((jM_givenOf L a1 a2 q5.2).bind (fun q7 => some (q7.1, q7.2))))) else ((jM_bad L q1.2).bind (fun q8 => some (q8.1, q8.2))))) := by
  unfold jM_given
  refine q_s (pc' := 1) (ls' := [vR 137, vI a1, vI a2]) (st' := [vR 137]) (g' := g) k171_0 rfl rfl ?_
  refine q_s (pc' := 2) (ls' := [vR 137, vI a1, vI a2]) (st' := [vI a1, vR 137]) (g' := g) k171_1 rfl rfl ?_
  refine q_callI (ls0 := [vR 137, vI a1]) (rest := []) (pc' := 5) rfl k171_2 rfl (hy4 rfl rfl rfl rfl) rfl rfl hq_146 rfl (fun q1 => ?_)
  refine q_if (P := q1.1 = 0) (t := 12) (pc' := 8) k171_5 Iff.rfl rfl rfl (fun h2 => ?_) (fun h2 => ?_)
  · refine q_s (pc' := 13) (ls' := [vR 137, vI a1, vI a2]) (st' := [vR 137]) (g' := q1.2) k171_12 rfl rfl ?_
    refine q_callI (ls0 := [vR 137]) (rest := []) (pc' := 16) rfl k171_13 rfl (hy4 rfl rfl rfl rfl) rfl rfl hq_135 rfl (fun q3 => ?_)
    exact q_e k171_16 rfl rfl rfl
  · refine q_s (pc' := 9) (ls' := [vR 137, vI a1, vI a2]) (st' := [vI a2]) (g' := q1.2) k171_8 rfl rfl ?_
    refine q_if (P := 0 ≤ a2) (t := 17) (pc' := 12) k171_9 Iff.rfl rfl rfl (fun h4 => ?_) (fun h4 => ?_)
    · refine q_s (pc' := 18) (ls' := [vR 137, vI a1, vI a2]) (st' := [vI a2]) (g' := q1.2) k171_17 rfl rfl ?_
      refine q_s (pc' := 19) (ls' := [vR 137, vI a1, vI a2]) (st' := [vR 137, vI a2]) (g' := q1.2) k171_18 rfl rfl ?_
      refine q_s (pc' := 20) (ls' := [vR 137, vI a1, vI a2]) (st' := [vI a1, vR 137, vI a2]) (g' := q1.2) k171_19 rfl rfl ?_
      refine q_callI (ls0 := [vR 137, vI a1]) (rest := [vI a2]) (pc' := 23) rfl k171_20 rfl (hy4 rfl rfl rfl rfl) rfl rfl hq_148 rfl (fun q5 => ?_)
      refine q_ic (P := q5.1 ≤ a2) (t := 35) (pc' := 26) k171_23 Iff.rfl rfl rfl (fun h6 => ?_) (fun h6 => ?_)
      · refine q_s (pc' := 38) (ls' := [vR 137, vI a1, vI a2]) (st' := [vI (-201)]) (g' := q5.2) k171_35 rfl rfl ?_
        exact q_e k171_38 rfl rfl rfl
      · refine q_s (pc' := 27) (ls' := [vR 137, vI a1, vI a2]) (st' := [vR 137]) (g' := q5.2) k171_26 rfl rfl ?_
        refine q_s (pc' := 28) (ls' := [vR 137, vI a1, vI a2]) (st' := [vI a1, vR 137]) (g' := q5.2) k171_27 rfl rfl ?_
        refine q_s (pc' := 29) (ls' := [vR 137, vI a1, vI a2]) (st' := [vI a2, vI a1, vR 137]) (g' := q5.2) k171_28 rfl rfl ?_
        refine q_callI (ls0 := [vR 137, vI a1, vI a2]) (rest := []) (pc' := 32) rfl k171_29 rfl (hy4 rfl rfl rfl rfl) rfl rfl hq_149 rfl (fun q7 => ?_)
        refine q_s (pc' := 38) (ls' := [vR 137, vI a1, vI a2]) (st' := [vI q7.1]) (g' := q7.2) k171_32 rfl rfl ?_
        exact q_e k171_38 rfl rfl rfl
    · refine q_s (pc' := 13) (ls' := [vR 137, vI a1, vI a2]) (st' := [vR 137]) (g' := q1.2) k171_12 rfl rfl ?_
      refine q_callI (ls0 := [vR 137]) (rest := []) (pc' := 16) rfl k171_13 rfl (hy4 rfl rfl rfl rfl) rfl rfl hq_135 rfl (fun q8 => ?_)
      exact q_e k171_16 rfl rfl rfl
set_option maxHeartbeats 4000000 in
theorem jM_moveCost_eq (L : Nat) (a0 : Int) (a1 : Int) (g : AMem) : jM_moveCost L a0 a1 g = if a0 ≠ 3 then (if a0 ≠ 4 then (some (1, g)) else (some (iw ((iw (a1 + 1)).tdiv 2), g))) else (some (a1, g)) := by
  unfold jM_moveCost
  refine q_s (pc' := 1) (ls' := [vI a0, vI a1]) (st' := [vI a0]) (g' := g) k172_0 rfl rfl ?_
  refine q_s (pc' := 2) (ls' := [vI a0, vI a1]) (st' := [vI 3, vI a0]) (g' := g) k172_1 rfl rfl ?_
  refine q_ic (P := a0 ≠ 3) (t := 9) (pc' := 5) k172_2 Iff.rfl rfl rfl (fun h1 => ?_) (fun h1 => ?_)
  · refine q_s (pc' := 10) (ls' := [vI a0, vI a1]) (st' := [vI a0]) (g' := g) k172_9 rfl rfl ?_
    refine q_s (pc' := 11) (ls' := [vI a0, vI a1]) (st' := [vI 4, vI a0]) (g' := g) k172_10 rfl rfl ?_
    refine q_ic (P := a0 ≠ 4) (t := 22) (pc' := 14) k172_11 Iff.rfl rfl rfl (fun h2 => ?_) (fun h2 => ?_)
    · refine q_s (pc' := 23) (ls' := [vI a0, vI a1]) (st' := [vI 1]) (g' := g) k172_22 rfl rfl ?_
      exact q_e k172_23 rfl rfl rfl
    · refine q_s (pc' := 15) (ls' := [vI a0, vI a1]) (st' := [vI a1]) (g' := g) k172_14 rfl rfl ?_
      refine q_s (pc' := 16) (ls' := [vI a0, vI a1]) (st' := [vI 1, vI a1]) (g' := g) k172_15 rfl rfl ?_
      refine q_s (pc' := 17) (ls' := [vI a0, vI a1]) (st' := [vI (iw (a1 + 1))]) (g' := g) k172_16 rfl rfl ?_
      refine q_s (pc' := 18) (ls' := [vI a0, vI a1]) (st' := [vI 2, vI (iw (a1 + 1))]) (g' := g) k172_17 rfl rfl ?_
      refine q_s (pc' := 19) (ls' := [vI a0, vI a1]) (st' := [vI (iw ((iw (a1 + 1)).tdiv 2))]) (g' := g) k172_18 rfl rfl ?_
      refine q_s (pc' := 23) (ls' := [vI a0, vI a1]) (st' := [vI (iw ((iw (a1 + 1)).tdiv 2))]) (g' := g) k172_19 rfl rfl ?_
      exact q_e k172_23 rfl rfl rfl
  · refine q_s (pc' := 6) (ls' := [vI a0, vI a1]) (st' := [vI a1]) (g' := g) k172_5 rfl rfl ?_
    refine q_s (pc' := 23) (ls' := [vI a0, vI a1]) (st' := [vI a1]) (g' := g) k172_6 rfl rfl ?_
    exact q_e k172_23 rfl rfl rfl
set_option maxHeartbeats 4000000 in
theorem jM_changeCost_eq (L : Nat) (a0 : Int) (a1 : Int) (g : AMem) : jM_changeCost L a0 a1 g = if a0 ≠ 1 then (if a0 ≠ 2 then (if a0 ≠ 4 then (some (0, g)) else (some (iw ((iw ((iw (a1 + 1)).tdiv 2)) + 1), g))) else (some (3, g))) else (some (1, g)) := by
  unfold jM_changeCost
  refine q_s (pc' := 1) (ls' := [vI a0, vI a1]) (st' := [vI a0]) (g' := g) k173_0 rfl rfl ?_
  refine q_s (pc' := 2) (ls' := [vI a0, vI a1]) (st' := [vI 1, vI a0]) (g' := g) k173_1 rfl rfl ?_
  refine q_ic (P := a0 ≠ 1) (t := 9) (pc' := 5) k173_2 Iff.rfl rfl rfl (fun h1 => ?_) (fun h1 => ?_)
  · refine q_s (pc' := 10) (ls' := [vI a0, vI a1]) (st' := [vI a0]) (g' := g) k173_9 rfl rfl ?_
    refine q_s (pc' := 11) (ls' := [vI a0, vI a1]) (st' := [vI 2, vI a0]) (g' := g) k173_10 rfl rfl ?_
    refine q_ic (P := a0 ≠ 2) (t := 18) (pc' := 14) k173_11 Iff.rfl rfl rfl (fun h2 => ?_) (fun h2 => ?_)
    · refine q_s (pc' := 19) (ls' := [vI a0, vI a1]) (st' := [vI a0]) (g' := g) k173_18 rfl rfl ?_
      refine q_s (pc' := 20) (ls' := [vI a0, vI a1]) (st' := [vI 4, vI a0]) (g' := g) k173_19 rfl rfl ?_
      refine q_ic (P := a0 ≠ 4) (t := 33) (pc' := 23) k173_20 Iff.rfl rfl rfl (fun h3 => ?_) (fun h3 => ?_)
      · refine q_s (pc' := 34) (ls' := [vI a0, vI a1]) (st' := [vI 0]) (g' := g) k173_33 rfl rfl ?_
        exact q_e k173_34 rfl rfl rfl
      · refine q_s (pc' := 24) (ls' := [vI a0, vI a1]) (st' := [vI a1]) (g' := g) k173_23 rfl rfl ?_
        refine q_s (pc' := 25) (ls' := [vI a0, vI a1]) (st' := [vI 1, vI a1]) (g' := g) k173_24 rfl rfl ?_
        refine q_s (pc' := 26) (ls' := [vI a0, vI a1]) (st' := [vI (iw (a1 + 1))]) (g' := g) k173_25 rfl rfl ?_
        refine q_s (pc' := 27) (ls' := [vI a0, vI a1]) (st' := [vI 2, vI (iw (a1 + 1))]) (g' := g) k173_26 rfl rfl ?_
        refine q_s (pc' := 28) (ls' := [vI a0, vI a1]) (st' := [vI (iw ((iw (a1 + 1)).tdiv 2))]) (g' := g) k173_27 rfl rfl ?_
        refine q_s (pc' := 29) (ls' := [vI a0, vI a1]) (st' := [vI 1, vI (iw ((iw (a1 + 1)).tdiv 2))]) (g' := g) k173_28 rfl rfl ?_
        refine q_s (pc' := 30) (ls' := [vI a0, vI a1]) (st' := [vI (iw ((iw ((iw (a1 + 1)).tdiv 2)) + 1))]) (g' := g) k173_29 rfl rfl ?_
        refine q_s (pc' := 34) (ls' := [vI a0, vI a1]) (st' := [vI (iw ((iw ((iw (a1 + 1)).tdiv 2)) + 1))]) (g' := g) k173_30 rfl rfl ?_
        exact q_e k173_34 rfl rfl rfl
    · refine q_s (pc' := 15) (ls' := [vI a0, vI a1]) (st' := [vI 3]) (g' := g) k173_14 rfl rfl ?_
      refine q_s (pc' := 34) (ls' := [vI a0, vI a1]) (st' := [vI 3]) (g' := g) k173_15 rfl rfl ?_
      exact q_e k173_34 rfl rfl rfl
  · refine q_s (pc' := 6) (ls' := [vI a0, vI a1]) (st' := [vI 1]) (g' := g) k173_5 rfl rfl ?_
    refine q_s (pc' := 34) (ls' := [vI a0, vI a1]) (st' := [vI 1]) (g' := g) k173_6 rfl rfl ?_
    exact q_e k173_34 rfl rfl rfl
set_option maxHeartbeats 4000000 in
theorem jM_comes_eq (L : Nat) (a1 : Int) (a2 : Int) (a3 : Int) (g : AMem) : jM_comes L a1 a2 a3 g = if 0 ≤ g 137 10 ∧ g 137 10 < 24 then (if 0 ≤ (up g 145 (g 137 10) a1) 137 10 ∧ (up g 145 (g 137 10) a1) 137 10 < 24 then (if 0 ≤ (up (up g 145 (g 137 10) a1) 146 ((up g 145 (g 137 10) a1) 137 10) a2) 137 10 ∧ (up (up g 145 (g 137 10) a1) 146 ((up g 145 (g 137 10) a1) 137 10) a2) 137 10 < 24 then (some (up (up (up (up g 145 (g 137 10) a1) 146 ((up g 145 (g 137 10) a1) 137 10) a2) 147 ((up (up g 145 (g 137 10) a1) 146 ((up g 145 (g 137 10) a1) 137 10) a2) 137 10) a3) 137 10 (iw (((up (up (up g 145 (g 137 10) a1) 146 ((up g 145 (g 137 10) a1) 137 10) a2) 147 ((up (up g 145 (g 137 10) a1) 146 ((up g 145 (g 137 10) a1) 137 10) a2) 137 10) a3) 137 10) + 1)))) else none) else none) else none := by
  unfold jM_comes
  refine q_s (pc' := 1) (ls' := [vR 137, vI a1, vI a2, vI a3]) (st' := [vR 137]) (g' := g) k174_0 rfl rfl ?_
  refine q_getF (r := 145) (pc' := 4) k174_1 rfl rfl rfl rfl ?_
  refine q_s (pc' := 5) (ls' := [vR 137, vI a1, vI a2, vI a3]) (st' := [vR 137, vR 145]) (g' := g) k174_4 rfl rfl ?_
  refine q_getI (w := 10) (pc' := 8) k174_5 rfl rfl rfl rfl ?_
  refine q_s (pc' := 9) (ls' := [vR 137, vI a1, vI a2, vI a3]) (st' := [vI a1, vI (g 137 10), vR 145]) (g' := g) k174_8 rfl rfl ?_
  refine q_iast (n := 24) (pc' := 10) rfl k174_9 rfl (by decide) rfl (fun h1 => ?_)
  refine q_s (pc' := 11) (ls' := [vR 137, vI a1, vI a2, vI a3]) (st' := [vR 137]) (g' := up g 145 (g 137 10) a1) k174_10 rfl rfl ?_
  refine q_getF (r := 146) (pc' := 14) k174_11 rfl rfl rfl rfl ?_
  refine q_s (pc' := 15) (ls' := [vR 137, vI a1, vI a2, vI a3]) (st' := [vR 137, vR 146]) (g' := up g 145 (g 137 10) a1) k174_14 rfl rfl ?_
  refine q_getI (w := 10) (pc' := 18) k174_15 rfl rfl rfl rfl ?_
  refine q_s (pc' := 19) (ls' := [vR 137, vI a1, vI a2, vI a3]) (st' := [vI a2, vI ((up g 145 (g 137 10) a1) 137 10), vR 146]) (g' := up g 145 (g 137 10) a1) k174_18 rfl rfl ?_
  refine q_iast (n := 24) (pc' := 20) rfl k174_19 rfl (by decide) rfl (fun h2 => ?_)
  refine q_s (pc' := 21) (ls' := [vR 137, vI a1, vI a2, vI a3]) (st' := [vR 137]) (g' := up (up g 145 (g 137 10) a1) 146 ((up g 145 (g 137 10) a1) 137 10) a2) k174_20 rfl rfl ?_
  refine q_getF (r := 147) (pc' := 24) k174_21 rfl rfl rfl rfl ?_
  refine q_s (pc' := 25) (ls' := [vR 137, vI a1, vI a2, vI a3]) (st' := [vR 137, vR 147]) (g' := up (up g 145 (g 137 10) a1) 146 ((up g 145 (g 137 10) a1) 137 10) a2) k174_24 rfl rfl ?_
  refine q_getI (w := 10) (pc' := 28) k174_25 rfl rfl rfl rfl ?_
  refine q_s (pc' := 29) (ls' := [vR 137, vI a1, vI a2, vI a3]) (st' := [vI a3, vI ((up (up g 145 (g 137 10) a1) 146 ((up g 145 (g 137 10) a1) 137 10) a2) 137 10), vR 147]) (g' := up (up g 145 (g 137 10) a1) 146 ((up g 145 (g 137 10) a1) 137 10) a2) k174_28 rfl rfl ?_
  refine q_iast (n := 24) (pc' := 30) rfl k174_29 rfl (by decide) rfl (fun h3 => ?_)
  refine q_s (pc' := 31) (ls' := [vR 137, vI a1, vI a2, vI a3]) (st' := [vR 137]) (g' := up (up (up g 145 (g 137 10) a1) 146 ((up g 145 (g 137 10) a1) 137 10) a2) 147 ((up (up g 145 (g 137 10) a1) 146 ((up g 145 (g 137 10) a1) 137 10) a2) 137 10) a3) k174_30 rfl rfl ?_
  refine q_s (pc' := 32) (ls' := [vR 137, vI a1, vI a2, vI a3]) (st' := [vR 137, vR 137]) (g' := up (up (up g 145 (g 137 10) a1) 146 ((up g 145 (g 137 10) a1) 137 10) a2) 147 ((up (up g 145 (g 137 10) a1) 146 ((up g 145 (g 137 10) a1) 137 10) a2) 137 10) a3) k174_31 rfl rfl ?_
  refine q_getI (w := 10) (pc' := 35) k174_32 rfl rfl rfl rfl ?_
  refine q_s (pc' := 36) (ls' := [vR 137, vI a1, vI a2, vI a3]) (st' := [vI 1, vI ((up (up (up g 145 (g 137 10) a1) 146 ((up g 145 (g 137 10) a1) 137 10) a2) 147 ((up (up g 145 (g 137 10) a1) 146 ((up g 145 (g 137 10) a1) 137 10) a2) 137 10) a3) 137 10), vR 137]) (g' := up (up (up g 145 (g 137 10) a1) 146 ((up g 145 (g 137 10) a1) 137 10) a2) 147 ((up (up g 145 (g 137 10) a1) 146 ((up g 145 (g 137 10) a1) 137 10) a2) 137 10) a3) k174_35 rfl rfl ?_
  refine q_s (pc' := 37) (ls' := [vR 137, vI a1, vI a2, vI a3]) (st' := [vI (iw (((up (up (up g 145 (g 137 10) a1) 146 ((up g 145 (g 137 10) a1) 137 10) a2) 147 ((up (up g 145 (g 137 10) a1) 146 ((up g 145 (g 137 10) a1) 137 10) a2) 137 10) a3) 137 10) + 1)), vR 137]) (g' := up (up (up g 145 (g 137 10) a1) 146 ((up g 145 (g 137 10) a1) 137 10) a2) 147 ((up (up g 145 (g 137 10) a1) 146 ((up g 145 (g 137 10) a1) 137 10) a2) 137 10) a3) k174_36 rfl rfl ?_
  refine q_putI (w := 10) (pc' := 40) k174_37 rfl rfl rfl rfl ?_
  exact q_e k174_40 rfl rfl rfl
set_option maxHeartbeats 4000000 in
theorem jM_isWanted_eq (L : Nat) (a1 : Int) (a2 : Int) (g : AMem) : jM_isWanted L a1 a2 g = jM_isWanted_5 L a1 a2 0 0 g := by
  unfold jM_isWanted
  refine q_s (pc' := 1) (ls' := [vR 137, vI a1, vI a2, vU, vU]) (st' := [vI 0]) (g' := g) k175_0 rfl rfl ?_
  refine q_s (pc' := 2) (ls' := [vR 137, vI a1, vI a2, vI 0, vU]) (st' := []) (g' := g) k175_1 rfl rfl ?_
  refine q_s (pc' := 3) (ls' := [vR 137, vI a1, vI a2, vI 0, vU]) (st' := [vI 0]) (g' := g) k175_2 rfl rfl ?_
  refine q_s (pc' := 5) (ls' := [vR 137, vI a1, vI a2, vI 0, vI 0]) (st' := []) (g' := g) k175_3 rfl rfl ?_
  rfl
set_option maxHeartbeats 4000000 in
theorem jM_isWanted_5_eq (L : Nat) (l1 : Int) (l2 : Int) (l3 : Int) (l4 : Int) (g : AMem) : jM_isWanted_5 L l1 l2 l3 l4 g = if l2 ≤ l4 then (if l3 = 0 ∨ l3 = 1 then some (l3, g) else none) else (if l3 ≠ 0 then (jM_isWanted_5 L l1 l2 1 (iw (l4 + 1)) g) else (if 0 ≤ l4 ∧ l4 < 6 then (if g 148 l4 = 0 then (jM_isWanted_5 L l1 l2 0 (iw (l4 + 1)) g) else (if 0 ≤ l4 ∧ l4 < 6 then (if g 149 l4 ≠ l1 then (jM_isWanted_5 L l1 l2 0 (iw (l4 + 1)) g) else (jM_isWanted_5 L l1 l2 1 (iw (l4 + 1)) g)) else none)) else none)) := by
  unfold jM_isWanted_5
  refine q_s (pc' := 7) (ls' := [vR 137, vI l1, vI l2, vI l3, vI l4]) (st' := [vI l4]) (g' := g) k175_5 rfl rfl ?_
  refine q_s (pc' := 8) (ls' := [vR 137, vI l1, vI l2, vI l3, vI l4]) (st' := [vI l2, vI l4]) (g' := g) k175_7 rfl rfl ?_
  refine q_ic (P := l2 ≤ l4) (t := 48) (pc' := 11) k175_8 Iff.rfl rfl rfl (fun h1 => ?_) (fun h1 => ?_)
  · refine q_s (pc' := 49) (ls' := [vR 137, vI l1, vI l2, vI l3, vI l4]) (st' := [vI l3]) (g' := g) k175_48 rfl rfl ?_
    exact q_eb rfl k175_49 rfl rfl
  · refine q_s (pc' := 12) (ls' := [vR 137, vI l1, vI l2, vI l3, vI l4]) (st' := [vI l3]) (g' := g) k175_11 rfl rfl ?_
    refine q_if (P := l3 ≠ 0) (t := 36) (pc' := 15) k175_12 Iff.rfl rfl rfl (fun h2 => ?_) (fun h2 => ?_)
    · refine q_s (pc' := 37) (ls' := [vR 137, vI l1, vI l2, vI l3, vI l4]) (st' := [vI 1]) (g' := g) k175_36 rfl rfl ?_
      refine q_s (pc' := 41) (ls' := [vR 137, vI l1, vI l2, vI l3, vI l4]) (st' := [vI 1]) (g' := g) k175_37 rfl rfl ?_
      refine q_s (pc' := 42) (ls' := [vR 137, vI l1, vI l2, vI 1, vI l4]) (st' := []) (g' := g) k175_41 rfl rfl ?_
      refine q_s (pc' := 45) (ls' := [vR 137, vI l1, vI l2, vI 1, vI (iw (l4 + 1))]) (st' := []) (g' := g) k175_42 rfl rfl ?_
      refine q_s (pc' := 5) (ls' := [vR 137, vI l1, vI l2, vI 1, vI (iw (l4 + 1))]) (st' := []) (g' := g) k175_45 rfl rfl ?_
      rfl
    · refine q_s (pc' := 16) (ls' := [vR 137, vI l1, vI l2, vI l3, vI l4]) (st' := [vR 137]) (g' := g) k175_15 rfl rfl ?_
      refine q_getF (r := 148) (pc' := 19) k175_16 rfl rfl rfl rfl ?_
      refine q_s (pc' := 21) (ls' := [vR 137, vI l1, vI l2, vI l3, vI l4]) (st' := [vI l4, vR 148]) (g' := g) k175_19 rfl rfl ?_
      refine q_bald (n := 6) (pc' := 22) rfl k175_21 rfl rfl (fun h3 => ?_)
      refine q_if (P := g 148 l4 = 0) (t := 40) (pc' := 25) k175_22 Iff.rfl rfl rfl (fun h4 => ?_) (fun h4 => ?_)
      · refine q_s (pc' := 41) (ls' := [vR 137, vI l1, vI l2, vI l3, vI l4]) (st' := [vI 0]) (g' := g) k175_40 rfl rfl ?_
        refine q_s (pc' := 42) (ls' := [vR 137, vI l1, vI l2, vI 0, vI l4]) (st' := []) (g' := g) k175_41 rfl rfl ?_
        refine q_s (pc' := 45) (ls' := [vR 137, vI l1, vI l2, vI 0, vI (iw (l4 + 1))]) (st' := []) (g' := g) k175_42 rfl rfl ?_
        refine q_s (pc' := 5) (ls' := [vR 137, vI l1, vI l2, vI 0, vI (iw (l4 + 1))]) (st' := []) (g' := g) k175_45 rfl rfl ?_
        rfl
      · refine q_s (pc' := 26) (ls' := [vR 137, vI l1, vI l2, vI l3, vI l4]) (st' := [vR 137]) (g' := g) k175_25 rfl rfl ?_
        refine q_getF (r := 149) (pc' := 29) k175_26 rfl rfl rfl rfl ?_
        refine q_s (pc' := 31) (ls' := [vR 137, vI l1, vI l2, vI l3, vI l4]) (st' := [vI l4, vR 149]) (g' := g) k175_29 rfl rfl ?_
        refine q_iald (n := 6) (pc' := 32) rfl k175_31 rfl rfl (fun h5 => ?_)
        refine q_s (pc' := 33) (ls' := [vR 137, vI l1, vI l2, vI l3, vI l4]) (st' := [vI l1, vI (g 149 l4)]) (g' := g) k175_32 rfl rfl ?_
        refine q_ic (P := g 149 l4 ≠ l1) (t := 40) (pc' := 36) k175_33 Iff.rfl rfl rfl (fun h6 => ?_) (fun h6 => ?_)
        · refine q_s (pc' := 41) (ls' := [vR 137, vI l1, vI l2, vI l3, vI l4]) (st' := [vI 0]) (g' := g) k175_40 rfl rfl ?_
          refine q_s (pc' := 42) (ls' := [vR 137, vI l1, vI l2, vI 0, vI l4]) (st' := []) (g' := g) k175_41 rfl rfl ?_
          refine q_s (pc' := 45) (ls' := [vR 137, vI l1, vI l2, vI 0, vI (iw (l4 + 1))]) (st' := []) (g' := g) k175_42 rfl rfl ?_
          refine q_s (pc' := 5) (ls' := [vR 137, vI l1, vI l2, vI 0, vI (iw (l4 + 1))]) (st' := []) (g' := g) k175_45 rfl rfl ?_
          rfl
        · refine q_s (pc' := 37) (ls' := [vR 137, vI l1, vI l2, vI l3, vI l4]) (st' := [vI 1]) (g' := g) k175_36 rfl rfl ?_
          refine q_s (pc' := 41) (ls' := [vR 137, vI l1, vI l2, vI l3, vI l4]) (st' := [vI 1]) (g' := g) k175_37 rfl rfl ?_
          refine q_s (pc' := 42) (ls' := [vR 137, vI l1, vI l2, vI 1, vI l4]) (st' := []) (g' := g) k175_41 rfl rfl ?_
          refine q_s (pc' := 45) (ls' := [vR 137, vI l1, vI l2, vI 1, vI (iw (l4 + 1))]) (st' := []) (g' := g) k175_42 rfl rfl ?_
          refine q_s (pc' := 5) (ls' := [vR 137, vI l1, vI l2, vI 1, vI (iw (l4 + 1))]) (st' := []) (g' := g) k175_45 rfl rfl ?_
          rfl
set_option maxHeartbeats 4000000 in
theorem jM_openMany_eq (L : Nat) (a1 : Int) (g : AMem) : jM_openMany L a1 g = jM_openMany_4 L a1 0 0 g := by
  unfold jM_openMany
  refine q_s (pc' := 1) (ls' := [vR 137, vI a1, vU, vU]) (st' := [vI 0]) (g' := g) k176_0 rfl rfl ?_
  refine q_s (pc' := 2) (ls' := [vR 137, vI a1, vI 0, vU]) (st' := []) (g' := g) k176_1 rfl rfl ?_
  refine q_s (pc' := 3) (ls' := [vR 137, vI a1, vI 0, vU]) (st' := [vI 0]) (g' := g) k176_2 rfl rfl ?_
  refine q_s (pc' := 4) (ls' := [vR 137, vI a1, vI 0, vI 0]) (st' := []) (g' := g) k176_3 rfl rfl ?_
  rfl
set_option maxHeartbeats 4000000 in
theorem jM_openMany_4_eq (L : Nat) (l1 : Int) (l2 : Int) (l3 : Int) (g : AMem) : jM_openMany_4 L l1 l2 l3 g = if l1 ≤ l3 then (some (l2, g)) else (if 0 ≤ l3 ∧ l3 < 6 then (if g 148 l3 = 0 then (jM_openMany_4 L l1 (iw (l2 + 0)) (iw (l3 + 1)) g) else (jM_openMany_4 L l1 (iw (l2 + 1)) (iw (l3 + 1)) g)) else none) := by
  unfold jM_openMany_4
  refine q_s (pc' := 5) (ls' := [vR 137, vI l1, vI l2, vI l3]) (st' := [vI l3]) (g' := g) k176_4 rfl rfl ?_
  refine q_s (pc' := 6) (ls' := [vR 137, vI l1, vI l2, vI l3]) (st' := [vI l1, vI l3]) (g' := g) k176_5 rfl rfl ?_
  refine q_ic (P := l1 ≤ l3) (t := 32) (pc' := 9) k176_6 Iff.rfl rfl rfl (fun h1 => ?_) (fun h1 => ?_)
  · refine q_s (pc' := 33) (ls' := [vR 137, vI l1, vI l2, vI l3]) (st' := [vI l2]) (g' := g) k176_32 rfl rfl ?_
    exact q_e k176_33 rfl rfl rfl
  · refine q_s (pc' := 10) (ls' := [vR 137, vI l1, vI l2, vI l3]) (st' := [vI l2]) (g' := g) k176_9 rfl rfl ?_
    refine q_s (pc' := 11) (ls' := [vR 137, vI l1, vI l2, vI l3]) (st' := [vR 137, vI l2]) (g' := g) k176_10 rfl rfl ?_
    refine q_getF (r := 148) (pc' := 14) k176_11 rfl rfl rfl rfl ?_
    refine q_s (pc' := 15) (ls' := [vR 137, vI l1, vI l2, vI l3]) (st' := [vI l3, vR 148, vI l2]) (g' := g) k176_14 rfl rfl ?_
    refine q_bald (n := 6) (pc' := 16) rfl k176_15 rfl rfl (fun h2 => ?_)
    refine q_if (P := g 148 l3 = 0) (t := 23) (pc' := 19) k176_16 Iff.rfl rfl rfl (fun h3 => ?_) (fun h3 => ?_)
    · refine q_s (pc' := 24) (ls' := [vR 137, vI l1, vI l2, vI l3]) (st' := [vI 0, vI l2]) (g' := g) k176_23 rfl rfl ?_
      refine q_s (pc' := 25) (ls' := [vR 137, vI l1, vI l2, vI l3]) (st' := [vI (iw (l2 + 0))]) (g' := g) k176_24 rfl rfl ?_
      refine q_s (pc' := 26) (ls' := [vR 137, vI l1, vI (iw (l2 + 0)), vI l3]) (st' := []) (g' := g) k176_25 rfl rfl ?_
      refine q_s (pc' := 29) (ls' := [vR 137, vI l1, vI (iw (l2 + 0)), vI (iw (l3 + 1))]) (st' := []) (g' := g) k176_26 rfl rfl ?_
      refine q_s (pc' := 4) (ls' := [vR 137, vI l1, vI (iw (l2 + 0)), vI (iw (l3 + 1))]) (st' := []) (g' := g) k176_29 rfl rfl ?_
      rfl
    · refine q_s (pc' := 20) (ls' := [vR 137, vI l1, vI l2, vI l3]) (st' := [vI 1, vI l2]) (g' := g) k176_19 rfl rfl ?_
      refine q_s (pc' := 24) (ls' := [vR 137, vI l1, vI l2, vI l3]) (st' := [vI 1, vI l2]) (g' := g) k176_20 rfl rfl ?_
      refine q_s (pc' := 25) (ls' := [vR 137, vI l1, vI l2, vI l3]) (st' := [vI (iw (l2 + 1))]) (g' := g) k176_24 rfl rfl ?_
      refine q_s (pc' := 26) (ls' := [vR 137, vI l1, vI (iw (l2 + 1)), vI l3]) (st' := []) (g' := g) k176_25 rfl rfl ?_
      refine q_s (pc' := 29) (ls' := [vR 137, vI l1, vI (iw (l2 + 1)), vI (iw (l3 + 1))]) (st' := []) (g' := g) k176_26 rfl rfl ?_
      refine q_s (pc' := 4) (ls' := [vR 137, vI l1, vI (iw (l2 + 1)), vI (iw (l3 + 1))]) (st' := []) (g' := g) k176_29 rfl rfl ?_
      rfl
set_option maxHeartbeats 4000000 in
theorem jM_leastOpen_eq (L : Nat) (a1 : Int) (a2 : Int) (g : AMem) : jM_leastOpen L a1 a2 g = (jM_manyOf L a1 g).bind (fun q1 => jM_leastOpen_14 L a1 a2 q1.1 (-201) 0 vU q1.2) := by
  unfold jM_leastOpen
  refine q_s (pc' := 1) (ls' := [vR 137, vI a1, vI a2, vU, vU, vU, vU]) (st' := [vR 137]) (g' := g) k177_0 rfl rfl ?_
  refine q_s (pc' := 2) (ls' := [vR 137, vI a1, vI a2, vU, vU, vU, vU]) (st' := [vI a1, vR 137]) (g' := g) k177_1 rfl rfl ?_
  refine q_callI (ls0 := [vR 137, vI a1]) (rest := []) (pc' := 5) rfl k177_2 rfl (hy4 rfl rfl rfl rfl) rfl rfl hq_148 rfl (fun q1 => ?_)
  refine q_s (pc' := 6) (ls' := [vR 137, vI a1, vI a2, vI q1.1, vU, vU, vU]) (st' := []) (g' := q1.2) k177_5 rfl rfl ?_
  refine q_s (pc' := 9) (ls' := [vR 137, vI a1, vI a2, vI q1.1, vU, vU, vU]) (st' := [vI (-201)]) (g' := q1.2) k177_6 rfl rfl ?_
  refine q_s (pc' := 11) (ls' := [vR 137, vI a1, vI a2, vI q1.1, vI (-201), vU, vU]) (st' := []) (g' := q1.2) k177_9 rfl rfl ?_
  refine q_s (pc' := 12) (ls' := [vR 137, vI a1, vI a2, vI q1.1, vI (-201), vU, vU]) (st' := [vI 0]) (g' := q1.2) k177_11 rfl rfl ?_
  refine q_s (pc' := 14) (ls' := [vR 137, vI a1, vI a2, vI q1.1, vI (-201), vI 0, vU]) (st' := []) (g' := q1.2) k177_12 rfl rfl ?_
  rfl
set_option maxHeartbeats 4000000 in
theorem jM_leastOpen_14_eq (L : Nat) (l1 : Int) (l2 : Int) (l3 : Int) (l4 : Int) (l5 : Int) (w6 : AVal) (g : AMem) : jM_leastOpen_14 L l1 l2 l3 l4 l5 w6 g = if l3 ≤ l5 then (some (l4, g)) else (if 0 ≤ l5 ∧ l5 < 6 then (if g 148 l5 = 0 then (jM_leastOpen_14 L l1 l2 l3 l4 (iw (l5 + 1)) (vI 0) g) else (if l2 = 0 then (if l4 = (-201) then (jM_leastOpen_14 L l1 l2 l3 l5 (iw (l5 + 1)) (vI 1) g) else ((jM_parameterOf L l1 l5 g).bind (fun q7 => (jM_byteOf L q7.1 q7.2).bind (fun q8 => (jM_parameterOf L l1 l4 q8.2).bind (fun q9 => (jM_byteOf L q9.1 q9.2).bind (fun q10 => if q10.1 ≤ q8.1 then (jM_leastOpen_14 L l1 l2 l3 l4 (iw (l5 + 1)) (vI 1) q10.2) else (jM_leastOpen_14 L l1 l2 l3 l5 (iw (l5 + 1)) (vI 1) q10.2))))))) else ((jM_parameterOf L l1 l5 g).bind (fun q12 => (jM_isWanted L q12.1 l3 q12.2).bind (fun q13 => if q13.1 ≠ 0 then (jM_leastOpen_14 L l1 l2 l3 l4 (iw (l5 + 1)) (vI 0) q13.2) else (if l4 = (-201) then (jM_leastOpen_14 L l1 l2 l3 l5 (iw (l5 + 1)) (vI 1) q13.2) else ((jM_parameterOf L l1 l5 q13.2).bind (fun q16 => (jM_byteOf L q16.1 q16.2).bind (fun q17 => (jM_parameterOf L l1 l4 q17.2).bind (fun q18 => (jM_byteOf L q18.1 q18.2).bind (fun q19 => if q19.1 ≤ q17.1 then (jM_leastOpen_14 L l1 l2 l3 l4 (iw (l5 + 1)) (vI 1) q19.2) else (jM_leastOpen_14 L l1 l2 l3 l5 (iw (l5 + 1)) (vI 1) q19.2)))))))))))) else none) := by
  unfold jM_leastOpen_14
  refine q_s (pc' := 16) (ls' := [vR 137, vI l1, vI l2, vI l3, vI l4, vI l5, w6]) (st' := [vI l5]) (g' := g) k177_14 rfl rfl ?_
  refine q_s (pc' := 17) (ls' := [vR 137, vI l1, vI l2, vI l3, vI l4, vI l5, w6]) (st' := [vI l3, vI l5]) (g' := g) k177_16 rfl rfl ?_
  refine q_ic (P := l3 ≤ l5) (t := 107) (pc' := 20) k177_17 Iff.rfl rfl rfl (fun h2 => ?_) (fun h2 => ?_)
  · refine q_s (pc' := 109) (ls' := [vR 137, vI l1, vI l2, vI l3, vI l4, vI l5, w6]) (st' := [vI l4]) (g' := g) k177_107 rfl rfl ?_
    exact q_e k177_109 rfl rfl rfl
  · refine q_s (pc' := 21) (ls' := [vR 137, vI l1, vI l2, vI l3, vI l4, vI l5, w6]) (st' := [vR 137]) (g' := g) k177_20 rfl rfl ?_
    refine q_getF (r := 148) (pc' := 24) k177_21 rfl rfl rfl rfl ?_
    refine q_s (pc' := 26) (ls' := [vR 137, vI l1, vI l2, vI l3, vI l4, vI l5, w6]) (st' := [vI l5, vR 148]) (g' := g) k177_24 rfl rfl ?_
    refine q_bald (n := 6) (pc' := 27) rfl k177_26 rfl rfl (fun h3 => ?_)
    refine q_if (P := g 148 l5 = 0) (t := 53) (pc' := 30) k177_27 Iff.rfl rfl rfl (fun h4 => ?_) (fun h4 => ?_)
    · refine q_s (pc' := 54) (ls' := [vR 137, vI l1, vI l2, vI l3, vI l4, vI l5, w6]) (st' := [vI 0]) (g' := g) k177_53 rfl rfl ?_
      refine q_s (pc' := 56) (ls' := [vR 137, vI l1, vI l2, vI l3, vI l4, vI l5, vI 0]) (st' := []) (g' := g) k177_54 rfl rfl ?_
      refine q_s (pc' := 58) (ls' := [vR 137, vI l1, vI l2, vI l3, vI l4, vI l5, vI 0]) (st' := [vI 0]) (g' := g) k177_56 rfl rfl ?_
      refine q_s (pc' := 97) (ls' := [vR 137, vI l1, vI l2, vI l3, vI l4, vI l5, vI 0]) (st' := []) (g' := g) k177_58 rfl rfl ?_
      refine q_s (pc' := 99) (ls' := [vR 137, vI l1, vI l2, vI l3, vI l4, vI l5, vI 0]) (st' := [vI l4]) (g' := g) k177_97 rfl rfl ?_
      refine q_s (pc' := 101) (ls' := [vR 137, vI l1, vI l2, vI l3, vI l4, vI l5, vI 0]) (st' := []) (g' := g) k177_99 rfl rfl ?_
      refine q_s (pc' := 104) (ls' := [vR 137, vI l1, vI l2, vI l3, vI l4, vI (iw (l5 + 1)), vI 0]) (st' := []) (g' := g) k177_101 rfl rfl ?_
      refine q_s (pc' := 14) (ls' := [vR 137, vI l1, vI l2, vI l3, vI l4, vI (iw (l5 + 1)), vI 0]) (st' := []) (g' := g) k177_104 rfl rfl ?_
      rfl
    · refine q_s (pc' := 31) (ls' := [vR 137, vI l1, vI l2, vI l3, vI l4, vI l5, w6]) (st' := [vI l2]) (g' := g) k177_30 rfl rfl ?_
      refine q_if (P := l2 = 0) (t := 49) (pc' := 34) k177_31 Iff.rfl rfl rfl (fun h5 => ?_) (fun h5 => ?_)
      · refine q_s (pc' := 50) (ls' := [vR 137, vI l1, vI l2, vI l3, vI l4, vI l5, w6]) (st' := [vI 1]) (g' := g) k177_49 rfl rfl ?_
        refine q_s (pc' := 54) (ls' := [vR 137, vI l1, vI l2, vI l3, vI l4, vI l5, w6]) (st' := [vI 1]) (g' := g) k177_50 rfl rfl ?_
        refine q_s (pc' := 56) (ls' := [vR 137, vI l1, vI l2, vI l3, vI l4, vI l5, vI 1]) (st' := []) (g' := g) k177_54 rfl rfl ?_
        refine q_s (pc' := 58) (ls' := [vR 137, vI l1, vI l2, vI l3, vI l4, vI l5, vI 1]) (st' := [vI 1]) (g' := g) k177_56 rfl rfl ?_
        refine q_s (pc' := 61) (ls' := [vR 137, vI l1, vI l2, vI l3, vI l4, vI l5, vI 1]) (st' := []) (g' := g) k177_58 rfl rfl ?_
        refine q_s (pc' := 63) (ls' := [vR 137, vI l1, vI l2, vI l3, vI l4, vI l5, vI 1]) (st' := [vI l4]) (g' := g) k177_61 rfl rfl ?_
        refine q_s (pc' := 66) (ls' := [vR 137, vI l1, vI l2, vI l3, vI l4, vI l5, vI 1]) (st' := [vI (-201), vI l4]) (g' := g) k177_63 rfl rfl ?_
        refine q_ic (P := l4 = (-201)) (t := 92) (pc' := 69) k177_66 Iff.rfl rfl rfl (fun h6 => ?_) (fun h6 => ?_)
        · refine q_s (pc' := 94) (ls' := [vR 137, vI l1, vI l2, vI l3, vI l4, vI l5, vI 1]) (st' := [vI l5]) (g' := g) k177_92 rfl rfl ?_
          refine q_s (pc' := 99) (ls' := [vR 137, vI l1, vI l2, vI l3, vI l4, vI l5, vI 1]) (st' := [vI l5]) (g' := g) k177_94 rfl rfl ?_
          refine q_s (pc' := 101) (ls' := [vR 137, vI l1, vI l2, vI l3, vI l5, vI l5, vI 1]) (st' := []) (g' := g) k177_99 rfl rfl ?_
          refine q_s (pc' := 104) (ls' := [vR 137, vI l1, vI l2, vI l3, vI l5, vI (iw (l5 + 1)), vI 1]) (st' := []) (g' := g) k177_101 rfl rfl ?_
          refine q_s (pc' := 14) (ls' := [vR 137, vI l1, vI l2, vI l3, vI l5, vI (iw (l5 + 1)), vI 1]) (st' := []) (g' := g) k177_104 rfl rfl ?_
          rfl
        · refine q_s (pc' := 70) (ls' := [vR 137, vI l1, vI l2, vI l3, vI l4, vI l5, vI 1]) (st' := [vR 137]) (g' := g) k177_69 rfl rfl ?_
          refine q_s (pc' := 71) (ls' := [vR 137, vI l1, vI l2, vI l3, vI l4, vI l5, vI 1]) (st' := [vI l1, vR 137]) (g' := g) k177_70 rfl rfl ?_
          refine q_s (pc' := 73) (ls' := [vR 137, vI l1, vI l2, vI l3, vI l4, vI l5, vI 1]) (st' := [vI l5, vI l1, vR 137]) (g' := g) k177_71 rfl rfl ?_
          refine q_callI (ls0 := [vR 137, vI l1, vI l5]) (rest := []) (pc' := 76) rfl k177_73 rfl (hy4 rfl rfl rfl rfl) rfl rfl hq_147 rfl (fun q7 => ?_)
          refine q_callI (ls0 := [vI q7.1]) (rest := []) (pc' := 79) rfl k177_76 rfl (hy4 rfl rfl rfl rfl) rfl rfl hq_140 rfl (fun q8 => ?_)
          refine q_s (pc' := 80) (ls' := [vR 137, vI l1, vI l2, vI l3, vI l4, vI l5, vI 1]) (st' := [vR 137, vI q8.1]) (g' := q8.2) k177_79 rfl rfl ?_
          refine q_s (pc' := 81) (ls' := [vR 137, vI l1, vI l2, vI l3, vI l4, vI l5, vI 1]) (st' := [vI l1, vR 137, vI q8.1]) (g' := q8.2) k177_80 rfl rfl ?_
          refine q_s (pc' := 83) (ls' := [vR 137, vI l1, vI l2, vI l3, vI l4, vI l5, vI 1]) (st' := [vI l4, vI l1, vR 137, vI q8.1]) (g' := q8.2) k177_81 rfl rfl ?_
          refine q_callI (ls0 := [vR 137, vI l1, vI l4]) (rest := [vI q8.1]) (pc' := 86) rfl k177_83 rfl (hy4 rfl rfl rfl rfl) rfl rfl hq_147 rfl (fun q9 => ?_)
          refine q_callI (ls0 := [vI q9.1]) (rest := [vI q8.1]) (pc' := 89) rfl k177_86 rfl (hy4 rfl rfl rfl rfl) rfl rfl hq_140 rfl (fun q10 => ?_)
          refine q_ic (P := q10.1 ≤ q8.1) (t := 97) (pc' := 92) k177_89 Iff.rfl rfl rfl (fun h11 => ?_) (fun h11 => ?_)
          · refine q_s (pc' := 99) (ls' := [vR 137, vI l1, vI l2, vI l3, vI l4, vI l5, vI 1]) (st' := [vI l4]) (g' := q10.2) k177_97 rfl rfl ?_
            refine q_s (pc' := 101) (ls' := [vR 137, vI l1, vI l2, vI l3, vI l4, vI l5, vI 1]) (st' := []) (g' := q10.2) k177_99 rfl rfl ?_
            refine q_s (pc' := 104) (ls' := [vR 137, vI l1, vI l2, vI l3, vI l4, vI (iw (l5 + 1)), vI 1]) (st' := []) (g' := q10.2) k177_101 rfl rfl ?_
            refine q_s (pc' := 14) (ls' := [vR 137, vI l1, vI l2, vI l3, vI l4, vI (iw (l5 + 1)), vI 1]) (st' := []) (g' := q10.2) k177_104 rfl rfl ?_
            rfl
          · refine q_s (pc' := 94) (ls' := [vR 137, vI l1, vI l2, vI l3, vI l4, vI l5, vI 1]) (st' := [vI l5]) (g' := q10.2) k177_92 rfl rfl ?_
            refine q_s (pc' := 99) (ls' := [vR 137, vI l1, vI l2, vI l3, vI l4, vI l5, vI 1]) (st' := [vI l5]) (g' := q10.2) k177_94 rfl rfl ?_
            refine q_s (pc' := 101) (ls' := [vR 137, vI l1, vI l2, vI l3, vI l5, vI l5, vI 1]) (st' := []) (g' := q10.2) k177_99 rfl rfl ?_
            refine q_s (pc' := 104) (ls' := [vR 137, vI l1, vI l2, vI l3, vI l5, vI (iw (l5 + 1)), vI 1]) (st' := []) (g' := q10.2) k177_101 rfl rfl ?_
            refine q_s (pc' := 14) (ls' := [vR 137, vI l1, vI l2, vI l3, vI l5, vI (iw (l5 + 1)), vI 1]) (st' := []) (g' := q10.2) k177_104 rfl rfl ?_
            rfl
      · refine q_s (pc' := 35) (ls' := [vR 137, vI l1, vI l2, vI l3, vI l4, vI l5, w6]) (st' := [vR 137]) (g' := g) k177_34 rfl rfl ?_
        refine q_s (pc' := 36) (ls' := [vR 137, vI l1, vI l2, vI l3, vI l4, vI l5, w6]) (st' := [vR 137, vR 137]) (g' := g) k177_35 rfl rfl ?_
        refine q_s (pc' := 37) (ls' := [vR 137, vI l1, vI l2, vI l3, vI l4, vI l5, w6]) (st' := [vI l1, vR 137, vR 137]) (g' := g) k177_36 rfl rfl ?_
        refine q_s (pc' := 39) (ls' := [vR 137, vI l1, vI l2, vI l3, vI l4, vI l5, w6]) (st' := [vI l5, vI l1, vR 137, vR 137]) (g' := g) k177_37 rfl rfl ?_
        refine q_callI (ls0 := [vR 137, vI l1, vI l5]) (rest := [vR 137]) (pc' := 42) rfl k177_39 rfl (hy4 rfl rfl rfl rfl) rfl rfl hq_147 rfl (fun q12 => ?_)
        refine q_s (pc' := 43) (ls' := [vR 137, vI l1, vI l2, vI l3, vI l4, vI l5, w6]) (st' := [vI l3, vI q12.1, vR 137]) (g' := q12.2) k177_42 rfl rfl ?_
        refine q_callI (ls0 := [vR 137, vI q12.1, vI l3, vU, vU]) (rest := []) (pc' := 46) rfl k177_43 rfl (hy4 rfl rfl rfl rfl) rfl rfl hq_175 rfl (fun q13 => ?_)
        refine q_if (P := q13.1 ≠ 0) (t := 53) (pc' := 49) k177_46 Iff.rfl rfl rfl (fun h14 => ?_) (fun h14 => ?_)
        · refine q_s (pc' := 54) (ls' := [vR 137, vI l1, vI l2, vI l3, vI l4, vI l5, w6]) (st' := [vI 0]) (g' := q13.2) k177_53 rfl rfl ?_
          refine q_s (pc' := 56) (ls' := [vR 137, vI l1, vI l2, vI l3, vI l4, vI l5, vI 0]) (st' := []) (g' := q13.2) k177_54 rfl rfl ?_
          refine q_s (pc' := 58) (ls' := [vR 137, vI l1, vI l2, vI l3, vI l4, vI l5, vI 0]) (st' := [vI 0]) (g' := q13.2) k177_56 rfl rfl ?_
          refine q_s (pc' := 97) (ls' := [vR 137, vI l1, vI l2, vI l3, vI l4, vI l5, vI 0]) (st' := []) (g' := q13.2) k177_58 rfl rfl ?_
          refine q_s (pc' := 99) (ls' := [vR 137, vI l1, vI l2, vI l3, vI l4, vI l5, vI 0]) (st' := [vI l4]) (g' := q13.2) k177_97 rfl rfl ?_
          refine q_s (pc' := 101) (ls' := [vR 137, vI l1, vI l2, vI l3, vI l4, vI l5, vI 0]) (st' := []) (g' := q13.2) k177_99 rfl rfl ?_
          refine q_s (pc' := 104) (ls' := [vR 137, vI l1, vI l2, vI l3, vI l4, vI (iw (l5 + 1)), vI 0]) (st' := []) (g' := q13.2) k177_101 rfl rfl ?_
          refine q_s (pc' := 14) (ls' := [vR 137, vI l1, vI l2, vI l3, vI l4, vI (iw (l5 + 1)), vI 0]) (st' := []) (g' := q13.2) k177_104 rfl rfl ?_
          rfl
        · refine q_s (pc' := 50) (ls' := [vR 137, vI l1, vI l2, vI l3, vI l4, vI l5, w6]) (st' := [vI 1]) (g' := q13.2) k177_49 rfl rfl ?_
          refine q_s (pc' := 54) (ls' := [vR 137, vI l1, vI l2, vI l3, vI l4, vI l5, w6]) (st' := [vI 1]) (g' := q13.2) k177_50 rfl rfl ?_
          refine q_s (pc' := 56) (ls' := [vR 137, vI l1, vI l2, vI l3, vI l4, vI l5, vI 1]) (st' := []) (g' := q13.2) k177_54 rfl rfl ?_
          refine q_s (pc' := 58) (ls' := [vR 137, vI l1, vI l2, vI l3, vI l4, vI l5, vI 1]) (st' := [vI 1]) (g' := q13.2) k177_56 rfl rfl ?_
          refine q_s (pc' := 61) (ls' := [vR 137, vI l1, vI l2, vI l3, vI l4, vI l5, vI 1]) (st' := []) (g' := q13.2) k177_58 rfl rfl ?_
          refine q_s (pc' := 63) (ls' := [vR 137, vI l1, vI l2, vI l3, vI l4, vI l5, vI 1]) (st' := [vI l4]) (g' := q13.2) k177_61 rfl rfl ?_
          refine q_s (pc' := 66) (ls' := [vR 137, vI l1, vI l2, vI l3, vI l4, vI l5, vI 1]) (st' := [vI (-201), vI l4]) (g' := q13.2) k177_63 rfl rfl ?_
          refine q_ic (P := l4 = (-201)) (t := 92) (pc' := 69) k177_66 Iff.rfl rfl rfl (fun h15 => ?_) (fun h15 => ?_)
          · refine q_s (pc' := 94) (ls' := [vR 137, vI l1, vI l2, vI l3, vI l4, vI l5, vI 1]) (st' := [vI l5]) (g' := q13.2) k177_92 rfl rfl ?_
            refine q_s (pc' := 99) (ls' := [vR 137, vI l1, vI l2, vI l3, vI l4, vI l5, vI 1]) (st' := [vI l5]) (g' := q13.2) k177_94 rfl rfl ?_
            refine q_s (pc' := 101) (ls' := [vR 137, vI l1, vI l2, vI l3, vI l5, vI l5, vI 1]) (st' := []) (g' := q13.2) k177_99 rfl rfl ?_
            refine q_s (pc' := 104) (ls' := [vR 137, vI l1, vI l2, vI l3, vI l5, vI (iw (l5 + 1)), vI 1]) (st' := []) (g' := q13.2) k177_101 rfl rfl ?_
            refine q_s (pc' := 14) (ls' := [vR 137, vI l1, vI l2, vI l3, vI l5, vI (iw (l5 + 1)), vI 1]) (st' := []) (g' := q13.2) k177_104 rfl rfl ?_
            rfl
          · refine q_s (pc' := 70) (ls' := [vR 137, vI l1, vI l2, vI l3, vI l4, vI l5, vI 1]) (st' := [vR 137]) (g' := q13.2) k177_69 rfl rfl ?_
            refine q_s (pc' := 71) (ls' := [vR 137, vI l1, vI l2, vI l3, vI l4, vI l5, vI 1]) (st' := [vI l1, vR 137]) (g' := q13.2) k177_70 rfl rfl ?_
            refine q_s (pc' := 73) (ls' := [vR 137, vI l1, vI l2, vI l3, vI l4, vI l5, vI 1]) (st' := [vI l5, vI l1, vR 137]) (g' := q13.2) k177_71 rfl rfl ?_
            refine q_callI (ls0 := [vR 137, vI l1, vI l5]) (rest := []) (pc' := 76) rfl k177_73 rfl (hy4 rfl rfl rfl rfl) rfl rfl hq_147 rfl (fun q16 => ?_)
            refine q_callI (ls0 := [vI q16.1]) (rest := []) (pc' := 79) rfl k177_76 rfl (hy4 rfl rfl rfl rfl) rfl rfl hq_140 rfl (fun q17 => ?_)
            refine q_s (pc' := 80) (ls' := [vR 137, vI l1, vI l2, vI l3, vI l4, vI l5, vI 1]) (st' := [vR 137, vI q17.1]) (g' := q17.2) k177_79 rfl rfl ?_
            refine q_s (pc' := 81) (ls' := [vR 137, vI l1, vI l2, vI l3, vI l4, vI l5, vI 1]) (st' := [vI l1, vR 137, vI q17.1]) (g' := q17.2) k177_80 rfl rfl ?_
            refine q_s (pc' := 83) (ls' := [vR 137, vI l1, vI l2, vI l3, vI l4, vI l5, vI 1]) (st' := [vI l4, vI l1, vR 137, vI q17.1]) (g' := q17.2) k177_81 rfl rfl ?_
            refine q_callI (ls0 := [vR 137, vI l1, vI l4]) (rest := [vI q17.1]) (pc' := 86) rfl k177_83 rfl (hy4 rfl rfl rfl rfl) rfl rfl hq_147 rfl (fun q18 => ?_)
            refine q_callI (ls0 := [vI q18.1]) (rest := [vI q17.1]) (pc' := 89) rfl k177_86 rfl (hy4 rfl rfl rfl rfl) rfl rfl hq_140 rfl (fun q19 => ?_)
            refine q_ic (P := q19.1 ≤ q17.1) (t := 97) (pc' := 92) k177_89 Iff.rfl rfl rfl (fun h20 => ?_) (fun h20 => ?_)
            · refine q_s (pc' := 99) (ls' := [vR 137, vI l1, vI l2, vI l3, vI l4, vI l5, vI 1]) (st' := [vI l4]) (g' := q19.2) k177_97 rfl rfl ?_
              refine q_s (pc' := 101) (ls' := [vR 137, vI l1, vI l2, vI l3, vI l4, vI l5, vI 1]) (st' := []) (g' := q19.2) k177_99 rfl rfl ?_
              refine q_s (pc' := 104) (ls' := [vR 137, vI l1, vI l2, vI l3, vI l4, vI (iw (l5 + 1)), vI 1]) (st' := []) (g' := q19.2) k177_101 rfl rfl ?_
              refine q_s (pc' := 14) (ls' := [vR 137, vI l1, vI l2, vI l3, vI l4, vI (iw (l5 + 1)), vI 1]) (st' := []) (g' := q19.2) k177_104 rfl rfl ?_
              rfl
            · refine q_s (pc' := 94) (ls' := [vR 137, vI l1, vI l2, vI l3, vI l4, vI l5, vI 1]) (st' := [vI l5]) (g' := q19.2) k177_92 rfl rfl ?_
              refine q_s (pc' := 99) (ls' := [vR 137, vI l1, vI l2, vI l3, vI l4, vI l5, vI 1]) (st' := [vI l5]) (g' := q19.2) k177_94 rfl rfl ?_
              refine q_s (pc' := 101) (ls' := [vR 137, vI l1, vI l2, vI l3, vI l5, vI l5, vI 1]) (st' := []) (g' := q19.2) k177_99 rfl rfl ?_
              refine q_s (pc' := 104) (ls' := [vR 137, vI l1, vI l2, vI l3, vI l5, vI (iw (l5 + 1)), vI 1]) (st' := []) (g' := q19.2) k177_101 rfl rfl ?_
              refine q_s (pc' := 14) (ls' := [vR 137, vI l1, vI l2, vI l3, vI l5, vI (iw (l5 + 1)), vI 1]) (st' := []) (g' := q19.2) k177_104 rfl rfl ?_
              rfl
set_option maxHeartbeats 4000000 in
theorem jM_whoHas_eq (L : Nat) (a1 : Int) (a2 : Int) (g : AMem) : jM_whoHas L a1 a2 g = jM_whoHas_7 L a1 a2 (-201) 0 g := by
  unfold jM_whoHas
  refine q_s (pc' := 3) (ls' := [vR 137, vI a1, vI a2, vU, vU]) (st' := [vI (-201)]) (g' := g) k178_0 rfl rfl ?_
  refine q_s (pc' := 4) (ls' := [vR 137, vI a1, vI a2, vI (-201), vU]) (st' := []) (g' := g) k178_3 rfl rfl ?_
  refine q_s (pc' := 5) (ls' := [vR 137, vI a1, vI a2, vI (-201), vU]) (st' := [vI 0]) (g' := g) k178_4 rfl rfl ?_
  refine q_s (pc' := 7) (ls' := [vR 137, vI a1, vI a2, vI (-201), vI 0]) (st' := []) (g' := g) k178_5 rfl rfl ?_
  rfl
set_option maxHeartbeats 4000000 in
theorem jM_whoHas_7_eq (L : Nat) (l1 : Int) (l2 : Int) (l3 : Int) (l4 : Int) (g : AMem) : jM_whoHas_7 L l1 l2 l3 l4 g = (jM_manyOf L l1 g).bind (fun q1 => if q1.1 ≤ l4 then (some (l3, q1.2)) else ((jM_parameterOf L l1 l4 q1.2).bind (fun q3 => if q3.1 ≠ l2 then (jM_whoHas_7 L l1 l2 l3 (iw (l4 + 1)) q3.2) else (jM_whoHas_7 L l1 l2 l4 (iw (l4 + 1)) q3.2)))) := by
  unfold jM_whoHas_7
  refine q_s (pc' := 9) (ls' := [vR 137, vI l1, vI l2, vI l3, vI l4]) (st' := [vI l4]) (g' := g) k178_7 rfl rfl ?_
  refine q_s (pc' := 10) (ls' := [vR 137, vI l1, vI l2, vI l3, vI l4]) (st' := [vR 137, vI l4]) (g' := g) k178_9 rfl rfl ?_
  refine q_s (pc' := 11) (ls' := [vR 137, vI l1, vI l2, vI l3, vI l4]) (st' := [vI l1, vR 137, vI l4]) (g' := g) k178_10 rfl rfl ?_
  refine q_callI (ls0 := [vR 137, vI l1]) (rest := [vI l4]) (pc' := 14) rfl k178_11 rfl (hy4 rfl rfl rfl rfl) rfl rfl hq_148 rfl (fun q1 => ?_)
  refine q_ic (P := q1.1 ≤ l4) (t := 41) (pc' := 17) k178_14 Iff.rfl rfl rfl (fun h2 => ?_) (fun h2 => ?_)
  · refine q_s (pc' := 42) (ls' := [vR 137, vI l1, vI l2, vI l3, vI l4]) (st' := [vI l3]) (g' := q1.2) k178_41 rfl rfl ?_
    exact q_e k178_42 rfl rfl rfl
  · refine q_s (pc' := 18) (ls' := [vR 137, vI l1, vI l2, vI l3, vI l4]) (st' := [vR 137]) (g' := q1.2) k178_17 rfl rfl ?_
    refine q_s (pc' := 19) (ls' := [vR 137, vI l1, vI l2, vI l3, vI l4]) (st' := [vI l1, vR 137]) (g' := q1.2) k178_18 rfl rfl ?_
    refine q_s (pc' := 21) (ls' := [vR 137, vI l1, vI l2, vI l3, vI l4]) (st' := [vI l4, vI l1, vR 137]) (g' := q1.2) k178_19 rfl rfl ?_
    refine q_callI (ls0 := [vR 137, vI l1, vI l4]) (rest := []) (pc' := 24) rfl k178_21 rfl (hy4 rfl rfl rfl rfl) rfl rfl hq_147 rfl (fun q3 => ?_)
    refine q_s (pc' := 25) (ls' := [vR 137, vI l1, vI l2, vI l3, vI l4]) (st' := [vI l2, vI q3.1]) (g' := q3.2) k178_24 rfl rfl ?_
    refine q_ic (P := q3.1 ≠ l2) (t := 33) (pc' := 28) k178_25 Iff.rfl rfl rfl (fun h4 => ?_) (fun h4 => ?_)
    · refine q_s (pc' := 34) (ls' := [vR 137, vI l1, vI l2, vI l3, vI l4]) (st' := [vI l3]) (g' := q3.2) k178_33 rfl rfl ?_
      refine q_s (pc' := 35) (ls' := [vR 137, vI l1, vI l2, vI l3, vI l4]) (st' := []) (g' := q3.2) k178_34 rfl rfl ?_
      refine q_s (pc' := 38) (ls' := [vR 137, vI l1, vI l2, vI l3, vI (iw (l4 + 1))]) (st' := []) (g' := q3.2) k178_35 rfl rfl ?_
      refine q_s (pc' := 7) (ls' := [vR 137, vI l1, vI l2, vI l3, vI (iw (l4 + 1))]) (st' := []) (g' := q3.2) k178_38 rfl rfl ?_
      rfl
    · refine q_s (pc' := 30) (ls' := [vR 137, vI l1, vI l2, vI l3, vI l4]) (st' := [vI l4]) (g' := q3.2) k178_28 rfl rfl ?_
      refine q_s (pc' := 34) (ls' := [vR 137, vI l1, vI l2, vI l3, vI l4]) (st' := [vI l4]) (g' := q3.2) k178_30 rfl rfl ?_
      refine q_s (pc' := 35) (ls' := [vR 137, vI l1, vI l2, vI l4, vI l4]) (st' := []) (g' := q3.2) k178_34 rfl rfl ?_
      refine q_s (pc' := 38) (ls' := [vR 137, vI l1, vI l2, vI l4, vI (iw (l4 + 1))]) (st' := []) (g' := q3.2) k178_35 rfl rfl ?_
      refine q_s (pc' := 7) (ls' := [vR 137, vI l1, vI l2, vI l4, vI (iw (l4 + 1))]) (st' := []) (g' := q3.2) k178_38 rfl rfl ?_
      rfl
set_option maxHeartbeats 4000000 in
theorem jM_lies_eq (L : Nat) (a1 : Int) (a2 : Int) (a3 : Int) (g : AMem) : jM_lies L a1 a2 a3 g = jM_lies_3 L a1 a2 a3 0 g := by
  unfold jM_lies
  refine q_s (pc' := 1) (ls' := [vR 137, vI a1, vI a2, vI a3, vU]) (st' := [vI 0]) (g' := g) k179_0 rfl rfl ?_
  refine q_s (pc' := 3) (ls' := [vR 137, vI a1, vI a2, vI a3, vI 0]) (st' := []) (g' := g) k179_1 rfl rfl ?_
  rfl
set_option maxHeartbeats 4000000 in
theorem jM_lies_3_eq (L : Nat) (l1 : Int) (l2 : Int) (l3 : Int) (l4 : Int) (g : AMem) : jM_lies_3 L l1 l2 l3 l4 g = (jM_manyOf L l1 g).bind (fun q1 => if q1.1 ≤ l4 then (some q1.2) else (if 0 ≤ l4 ∧ l4 < 6 then (if q1.2 149 l4 ≠ l2 then (if 0 ≤ l4 ∧ l4 < 6 then (if 0 ≤ l4 ∧ l4 < 6 then (jM_lies_3 L l1 l2 l3 (iw (l4 + 1)) (up q1.2 149 l4 (q1.2 149 l4))) else none) else none) else (if 0 ≤ l4 ∧ l4 < 6 then (jM_lies_3 L l1 l2 l3 (iw (l4 + 1)) (up q1.2 149 l4 l3)) else none)) else none)) := by
  unfold jM_lies_3
  refine q_s (pc' := 5) (ls' := [vR 137, vI l1, vI l2, vI l3, vI l4]) (st' := [vI l4]) (g' := g) k179_3 rfl rfl ?_
  refine q_s (pc' := 6) (ls' := [vR 137, vI l1, vI l2, vI l3, vI l4]) (st' := [vR 137, vI l4]) (g' := g) k179_5 rfl rfl ?_
  refine q_s (pc' := 7) (ls' := [vR 137, vI l1, vI l2, vI l3, vI l4]) (st' := [vI l1, vR 137, vI l4]) (g' := g) k179_6 rfl rfl ?_
  refine q_callI (ls0 := [vR 137, vI l1]) (rest := [vI l4]) (pc' := 10) rfl k179_7 rfl (hy4 rfl rfl rfl rfl) rfl rfl hq_148 rfl (fun q1 => ?_)
  refine q_ic (P := q1.1 ≤ l4) (t := 48) (pc' := 13) k179_10 Iff.rfl rfl rfl (fun h2 => ?_) (fun h2 => ?_)
  · exact q_e k179_48 rfl rfl rfl
  · refine q_s (pc' := 14) (ls' := [vR 137, vI l1, vI l2, vI l3, vI l4]) (st' := [vR 137]) (g' := q1.2) k179_13 rfl rfl ?_
    refine q_getF (r := 149) (pc' := 17) k179_14 rfl rfl rfl rfl ?_
    refine q_s (pc' := 19) (ls' := [vR 137, vI l1, vI l2, vI l3, vI l4]) (st' := [vI l4, vR 149]) (g' := q1.2) k179_17 rfl rfl ?_
    refine q_s (pc' := 20) (ls' := [vR 137, vI l1, vI l2, vI l3, vI l4]) (st' := [vR 137, vI l4, vR 149]) (g' := q1.2) k179_19 rfl rfl ?_
    refine q_getF (r := 149) (pc' := 23) k179_20 rfl rfl rfl rfl ?_
    refine q_s (pc' := 25) (ls' := [vR 137, vI l1, vI l2, vI l3, vI l4]) (st' := [vI l4, vR 149, vI l4, vR 149]) (g' := q1.2) k179_23 rfl rfl ?_
    refine q_iald (n := 6) (pc' := 26) rfl k179_25 rfl rfl (fun h3 => ?_)
    refine q_s (pc' := 27) (ls' := [vR 137, vI l1, vI l2, vI l3, vI l4]) (st' := [vI l2, vI (q1.2 149 l4), vI l4, vR 149]) (g' := q1.2) k179_26 rfl rfl ?_
    refine q_ic (P := q1.2 149 l4 ≠ l2) (t := 34) (pc' := 30) k179_27 Iff.rfl rfl rfl (fun h4 => ?_) (fun h4 => ?_)
    · refine q_s (pc' := 35) (ls' := [vR 137, vI l1, vI l2, vI l3, vI l4]) (st' := [vR 137, vI l4, vR 149]) (g' := q1.2) k179_34 rfl rfl ?_
      refine q_getF (r := 149) (pc' := 38) k179_35 rfl rfl rfl rfl ?_
      refine q_s (pc' := 40) (ls' := [vR 137, vI l1, vI l2, vI l3, vI l4]) (st' := [vI l4, vR 149, vI l4, vR 149]) (g' := q1.2) k179_38 rfl rfl ?_
      refine q_iald (n := 6) (pc' := 41) rfl k179_40 rfl rfl (fun h5 => ?_)
      refine q_iast (n := 6) (pc' := 42) rfl k179_41 rfl (by decide) rfl (fun h6 => ?_)
      refine q_s (pc' := 45) (ls' := [vR 137, vI l1, vI l2, vI l3, vI (iw (l4 + 1))]) (st' := []) (g' := up q1.2 149 l4 (q1.2 149 l4)) k179_42 rfl rfl ?_
      refine q_s (pc' := 3) (ls' := [vR 137, vI l1, vI l2, vI l3, vI (iw (l4 + 1))]) (st' := []) (g' := up q1.2 149 l4 (q1.2 149 l4)) k179_45 rfl rfl ?_
      rfl
    · refine q_s (pc' := 31) (ls' := [vR 137, vI l1, vI l2, vI l3, vI l4]) (st' := [vI l3, vI l4, vR 149]) (g' := q1.2) k179_30 rfl rfl ?_
      refine q_s (pc' := 41) (ls' := [vR 137, vI l1, vI l2, vI l3, vI l4]) (st' := [vI l3, vI l4, vR 149]) (g' := q1.2) k179_31 rfl rfl ?_
      refine q_iast (n := 6) (pc' := 42) rfl k179_41 rfl (by decide) rfl (fun h7 => ?_)
      refine q_s (pc' := 45) (ls' := [vR 137, vI l1, vI l2, vI l3, vI (iw (l4 + 1))]) (st' := []) (g' := up q1.2 149 l4 l3) k179_42 rfl rfl ?_
      refine q_s (pc' := 3) (ls' := [vR 137, vI l1, vI l2, vI l3, vI (iw (l4 + 1))]) (st' := []) (g' := up q1.2 149 l4 l3) k179_45 rfl rfl ?_
      rfl
set_option maxHeartbeats 4000000 in
theorem jM_movesTo_eq (L : Nat) (a1 : Int) (a2 : Int) (g : AMem) : jM_movesTo L a1 a2 g = (jM_parameterOf L a1 a2 g).bind (fun q1 => if 0 ≤ a2 ∧ a2 < 6 then ((jM_comes L 0 q1.1 (q1.2 149 a2) q1.2).bind (fun q3 => if (0 ≤ a2 ∧ a2 < 6) ∧ ((0 : Int) = 0 ∨ (0 : Int) = 1) then ((jM_lies L a1 (q1.2 149 a2) q1.1 (up q3 148 a2 0)).bind (fun q5 => some q5)) else none)) else none) := by
  unfold jM_movesTo
  refine q_s (pc' := 1) (ls' := [vR 137, vI a1, vI a2, vU, vU]) (st' := [vR 137]) (g' := g) k180_0 rfl rfl ?_
  refine q_s (pc' := 2) (ls' := [vR 137, vI a1, vI a2, vU, vU]) (st' := [vI a1, vR 137]) (g' := g) k180_1 rfl rfl ?_
  refine q_s (pc' := 3) (ls' := [vR 137, vI a1, vI a2, vU, vU]) (st' := [vI a2, vI a1, vR 137]) (g' := g) k180_2 rfl rfl ?_
  refine q_callI (ls0 := [vR 137, vI a1, vI a2]) (rest := []) (pc' := 6) rfl k180_3 rfl (hy4 rfl rfl rfl rfl) rfl rfl hq_147 rfl (fun q1 => ?_)
  refine q_s (pc' := 7) (ls' := [vR 137, vI a1, vI a2, vI q1.1, vU]) (st' := []) (g' := q1.2) k180_6 rfl rfl ?_
  refine q_s (pc' := 8) (ls' := [vR 137, vI a1, vI a2, vI q1.1, vU]) (st' := [vR 137]) (g' := q1.2) k180_7 rfl rfl ?_
  refine q_getF (r := 149) (pc' := 11) k180_8 rfl rfl rfl rfl ?_
  refine q_s (pc' := 12) (ls' := [vR 137, vI a1, vI a2, vI q1.1, vU]) (st' := [vI a2, vR 149]) (g' := q1.2) k180_11 rfl rfl ?_
  refine q_iald (n := 6) (pc' := 13) rfl k180_12 rfl rfl (fun h2 => ?_)
  refine q_s (pc' := 15) (ls' := [vR 137, vI a1, vI a2, vI q1.1, vI (q1.2 149 a2)]) (st' := []) (g' := q1.2) k180_13 rfl rfl ?_
  refine q_s (pc' := 16) (ls' := [vR 137, vI a1, vI a2, vI q1.1, vI (q1.2 149 a2)]) (st' := [vR 137]) (g' := q1.2) k180_15 rfl rfl ?_
  refine q_s (pc' := 17) (ls' := [vR 137, vI a1, vI a2, vI q1.1, vI (q1.2 149 a2)]) (st' := [vI 0, vR 137]) (g' := q1.2) k180_16 rfl rfl ?_
  refine q_s (pc' := 18) (ls' := [vR 137, vI a1, vI a2, vI q1.1, vI (q1.2 149 a2)]) (st' := [vI q1.1, vI 0, vR 137]) (g' := q1.2) k180_17 rfl rfl ?_
  refine q_s (pc' := 20) (ls' := [vR 137, vI a1, vI a2, vI q1.1, vI (q1.2 149 a2)]) (st' := [vI (q1.2 149 a2), vI q1.1, vI 0, vR 137]) (g' := q1.2) k180_18 rfl rfl ?_
  refine q_callV (ls0 := [vR 137, vI 0, vI q1.1, vI (q1.2 149 a2)]) (rest := []) (pc' := 23) rfl k180_20 rfl (hy4 rfl rfl rfl rfl) rfl rfl hq_174 rfl (fun q3 => ?_)
  refine q_s (pc' := 24) (ls' := [vR 137, vI a1, vI a2, vI q1.1, vI (q1.2 149 a2)]) (st' := [vR 137]) (g' := q3) k180_23 rfl rfl ?_
  refine q_getF (r := 148) (pc' := 27) k180_24 rfl rfl rfl rfl ?_
  refine q_s (pc' := 28) (ls' := [vR 137, vI a1, vI a2, vI q1.1, vI (q1.2 149 a2)]) (st' := [vI a2, vR 148]) (g' := q3) k180_27 rfl rfl ?_
  refine q_s (pc' := 29) (ls' := [vR 137, vI a1, vI a2, vI q1.1, vI (q1.2 149 a2)]) (st' := [vI 0, vI a2, vR 148]) (g' := q3) k180_28 rfl rfl ?_
  refine q_bast (n := 6) (pc' := 30) rfl k180_29 rfl rfl (fun h4 => ?_)
  refine q_s (pc' := 31) (ls' := [vR 137, vI a1, vI a2, vI q1.1, vI (q1.2 149 a2)]) (st' := [vR 137]) (g' := up q3 148 a2 0) k180_30 rfl rfl ?_
  refine q_s (pc' := 32) (ls' := [vR 137, vI a1, vI a2, vI q1.1, vI (q1.2 149 a2)]) (st' := [vI a1, vR 137]) (g' := up q3 148 a2 0) k180_31 rfl rfl ?_
  refine q_s (pc' := 34) (ls' := [vR 137, vI a1, vI a2, vI q1.1, vI (q1.2 149 a2)]) (st' := [vI (q1.2 149 a2), vI a1, vR 137]) (g' := up q3 148 a2 0) k180_32 rfl rfl ?_
  refine q_s (pc' := 35) (ls' := [vR 137, vI a1, vI a2, vI q1.1, vI (q1.2 149 a2)]) (st' := [vI q1.1, vI (q1.2 149 a2), vI a1, vR 137]) (g' := up q3 148 a2 0) k180_34 rfl rfl ?_
  refine q_callV (ls0 := [vR 137, vI a1, vI (q1.2 149 a2), vI q1.1, vU]) (rest := []) (pc' := 38) rfl k180_35 rfl (hy4 rfl rfl rfl rfl) rfl rfl hq_179 rfl (fun q5 => ?_)
  exact q_e k180_38 rfl rfl rfl
set_option maxHeartbeats 4000000 in
theorem jM_breaks_eq (L : Nat) (a1 : Int) (a2 : Int) (a3 : Int) (g : AMem) : jM_breaks L a1 a2 a3 g = (jM_parameterOf L a1 a2 g).bind (fun q1 => (jM_widthOf L q1.1 q1.2).bind (fun q2 => if 0 ≤ a2 ∧ a2 < 6 then ((jM_whoHas L a1 (q2.2 149 a2) q2.2).bind (fun q4 => jM_breaks_31 L a1 a2 a3 q1.1 q2.1 1 q4.1 q4.2)) else none)) := by
  unfold jM_breaks
  refine q_s (pc' := 1) (ls' := [vR 137, vI a1, vI a2, vI a3, vU, vU, vU, vU, vU, vU]) (st' := [vR 137]) (g' := g) k181_0 rfl rfl ?_
  refine q_s (pc' := 2) (ls' := [vR 137, vI a1, vI a2, vI a3, vU, vU, vU, vU, vU, vU]) (st' := [vI a1, vR 137]) (g' := g) k181_1 rfl rfl ?_
  refine q_s (pc' := 3) (ls' := [vR 137, vI a1, vI a2, vI a3, vU, vU, vU, vU, vU, vU]) (st' := [vI a2, vI a1, vR 137]) (g' := g) k181_2 rfl rfl ?_
  refine q_callI (ls0 := [vR 137, vI a1, vI a2]) (rest := []) (pc' := 6) rfl k181_3 rfl (hy4 rfl rfl rfl rfl) rfl rfl hq_147 rfl (fun q1 => ?_)
  refine q_s (pc' := 8) (ls' := [vR 137, vI a1, vI a2, vI a3, vI q1.1, vU, vU, vU, vU, vU]) (st' := []) (g' := q1.2) k181_6 rfl rfl ?_
  refine q_s (pc' := 10) (ls' := [vR 137, vI a1, vI a2, vI a3, vI q1.1, vU, vU, vU, vU, vU]) (st' := [vI q1.1]) (g' := q1.2) k181_8 rfl rfl ?_
  refine q_callI (ls0 := [vI q1.1]) (rest := []) (pc' := 13) rfl k181_10 rfl (hy4 rfl rfl rfl rfl) rfl rfl hq_139 rfl (fun q2 => ?_)
  refine q_s (pc' := 15) (ls' := [vR 137, vI a1, vI a2, vI a3, vI q1.1, vI q2.1, vU, vU, vU, vU]) (st' := []) (g' := q2.2) k181_13 rfl rfl ?_
  refine q_s (pc' := 16) (ls' := [vR 137, vI a1, vI a2, vI a3, vI q1.1, vI q2.1, vU, vU, vU, vU]) (st' := [vI 1]) (g' := q2.2) k181_15 rfl rfl ?_
  refine q_s (pc' := 18) (ls' := [vR 137, vI a1, vI a2, vI a3, vI q1.1, vI q2.1, vI 1, vU, vU, vU]) (st' := []) (g' := q2.2) k181_16 rfl rfl ?_
  refine q_s (pc' := 19) (ls' := [vR 137, vI a1, vI a2, vI a3, vI q1.1, vI q2.1, vI 1, vU, vU, vU]) (st' := [vR 137]) (g' := q2.2) k181_18 rfl rfl ?_
  refine q_s (pc' := 20) (ls' := [vR 137, vI a1, vI a2, vI a3, vI q1.1, vI q2.1, vI 1, vU, vU, vU]) (st' := [vI a1, vR 137]) (g' := q2.2) k181_19 rfl rfl ?_
  refine q_s (pc' := 21) (ls' := [vR 137, vI a1, vI a2, vI a3, vI q1.1, vI q2.1, vI 1, vU, vU, vU]) (st' := [vR 137, vI a1, vR 137]) (g' := q2.2) k181_20 rfl rfl ?_
  refine q_getF (r := 149) (pc' := 24) k181_21 rfl rfl rfl rfl ?_
  refine q_s (pc' := 25) (ls' := [vR 137, vI a1, vI a2, vI a3, vI q1.1, vI q2.1, vI 1, vU, vU, vU]) (st' := [vI a2, vR 149, vI a1, vR 137]) (g' := q2.2) k181_24 rfl rfl ?_
  refine q_iald (n := 6) (pc' := 26) rfl k181_25 rfl rfl (fun h3 => ?_)
  refine q_callI (ls0 := [vR 137, vI a1, vI (q2.2 149 a2), vU, vU]) (rest := []) (pc' := 29) rfl k181_26 rfl (hy4 rfl rfl rfl rfl) rfl rfl hq_178 rfl (fun q4 => ?_)
  refine q_s (pc' := 31) (ls' := [vR 137, vI a1, vI a2, vI a3, vI q1.1, vI q2.1, vI 1, vI q4.1, vU, vU]) (st' := []) (g' := q4.2) k181_29 rfl rfl ?_
  rfl
set_option maxHeartbeats 4000000 in
theorem jM_breaks_31_eq (L : Nat) (l1 : Int) (l2 : Int) (l3 : Int) (l4 : Int) (l5 : Int) (l6 : Int) (l7 : Int) (g : AMem) : jM_breaks_31 L l1 l2 l3 l4 l5 l6 l7 g = if l7 = l2 then ((jM_changeCost L l3 l5 g).bind (fun q6 => if q6.1 = 0 then ((jM_comes L 0 (iw (320 + l5)) l4 q6.2).bind (fun q8 => (jM_lies L l1 l4 (iw (320 + l5)) q8).bind (fun q9 => some q9))) else ((jM_moveCost L l3 l5 q6.2).bind (fun q10 => if iw ((iw (l6 - 1)) * q6.1) < iw ((iw (l6 + 1)) * q10.1) then (jM_breaks_124 L l1 l2 l3 l4 l5 l6 q6.1 l2 1 q10.2) else ((jM_comes L 0 (iw (320 + l5)) l4 q10.2).bind (fun q12 => (jM_lies L l1 l4 (iw (320 + l5)) q12).bind (fun q13 => some q13))))))) else (if 0 ≤ l7 ∧ l7 < 6 then ((jM_whoHas L l1 (g 149 l7) g).bind (fun q15 => jM_breaks_31 L l1 l2 l3 l4 l5 (iw (l6 + 1)) q15.1 q15.2)) else none) := by
  unfold jM_breaks_31
  refine q_s (pc' := 33) (ls' := [vR 137, vI l1, vI l2, vI l3, vI l4, vI l5, vI l6, vI l7, vU, vU]) (st' := [vI l7]) (g' := g) k181_31 rfl rfl ?_
  refine q_s (pc' := 34) (ls' := [vR 137, vI l1, vI l2, vI l3, vI l4, vI l5, vI l6, vI l7, vU, vU]) (st' := [vI l2, vI l7]) (g' := g) k181_33 rfl rfl ?_
  refine q_ic (P := l7 = l2) (t := 57) (pc' := 37) k181_34 Iff.rfl rfl rfl (fun h5 => ?_) (fun h5 => ?_)
  · refine q_s (pc' := 58) (ls' := [vR 137, vI l1, vI l2, vI l3, vI l4, vI l5, vI l6, vI l7, vU, vU]) (st' := [vI l3]) (g' := g) k181_57 rfl rfl ?_
    refine q_s (pc' := 60) (ls' := [vR 137, vI l1, vI l2, vI l3, vI l4, vI l5, vI l6, vI l7, vU, vU]) (st' := [vI l5, vI l3]) (g' := g) k181_58 rfl rfl ?_
    refine q_callI (ls0 := [vI l3, vI l5]) (rest := []) (pc' := 63) rfl k181_60 rfl (hy4 rfl rfl rfl rfl) rfl rfl hq_173 rfl (fun q6 => ?_)
    refine q_s (pc' := 65) (ls' := [vR 137, vI l1, vI l2, vI l3, vI l4, vI l5, vI l6, vI q6.1, vU, vU]) (st' := []) (g' := q6.2) k181_63 rfl rfl ?_
    refine q_s (pc' := 67) (ls' := [vR 137, vI l1, vI l2, vI l3, vI l4, vI l5, vI l6, vI q6.1, vU, vU]) (st' := [vI q6.1]) (g' := q6.2) k181_65 rfl rfl ?_
    refine q_if (P := q6.1 = 0) (t := 91) (pc' := 70) k181_67 Iff.rfl rfl rfl (fun h7 => ?_) (fun h7 => ?_)
    · refine q_s (pc' := 92) (ls' := [vR 137, vI l1, vI l2, vI l3, vI l4, vI l5, vI l6, vI q6.1, vU, vU]) (st' := [vR 137]) (g' := q6.2) k181_91 rfl rfl ?_
      refine q_s (pc' := 93) (ls' := [vR 137, vI l1, vI l2, vI l3, vI l4, vI l5, vI l6, vI q6.1, vU, vU]) (st' := [vI 0, vR 137]) (g' := q6.2) k181_92 rfl rfl ?_
      refine q_s (pc' := 96) (ls' := [vR 137, vI l1, vI l2, vI l3, vI l4, vI l5, vI l6, vI q6.1, vU, vU]) (st' := [vI 320, vI 0, vR 137]) (g' := q6.2) k181_93 rfl rfl ?_
      refine q_s (pc' := 98) (ls' := [vR 137, vI l1, vI l2, vI l3, vI l4, vI l5, vI l6, vI q6.1, vU, vU]) (st' := [vI l5, vI 320, vI 0, vR 137]) (g' := q6.2) k181_96 rfl rfl ?_
      refine q_s (pc' := 99) (ls' := [vR 137, vI l1, vI l2, vI l3, vI l4, vI l5, vI l6, vI q6.1, vU, vU]) (st' := [vI (iw (320 + l5)), vI 0, vR 137]) (g' := q6.2) k181_98 rfl rfl ?_
      refine q_s (pc' := 101) (ls' := [vR 137, vI l1, vI l2, vI l3, vI l4, vI l5, vI l6, vI q6.1, vU, vU]) (st' := [vI l4, vI (iw (320 + l5)), vI 0, vR 137]) (g' := q6.2) k181_99 rfl rfl ?_
      refine q_callV (ls0 := [vR 137, vI 0, vI (iw (320 + l5)), vI l4]) (rest := []) (pc' := 104) rfl k181_101 rfl (hy4 rfl rfl rfl rfl) rfl rfl hq_174 rfl (fun q8 => ?_)
      refine q_s (pc' := 105) (ls' := [vR 137, vI l1, vI l2, vI l3, vI l4, vI l5, vI l6, vI q6.1, vU, vU]) (st' := [vR 137]) (g' := q8) k181_104 rfl rfl ?_
      refine q_s (pc' := 106) (ls' := [vR 137, vI l1, vI l2, vI l3, vI l4, vI l5, vI l6, vI q6.1, vU, vU]) (st' := [vI l1, vR 137]) (g' := q8) k181_105 rfl rfl ?_
      refine q_s (pc' := 108) (ls' := [vR 137, vI l1, vI l2, vI l3, vI l4, vI l5, vI l6, vI q6.1, vU, vU]) (st' := [vI l4, vI l1, vR 137]) (g' := q8) k181_106 rfl rfl ?_
      refine q_s (pc' := 111) (ls' := [vR 137, vI l1, vI l2, vI l3, vI l4, vI l5, vI l6, vI q6.1, vU, vU]) (st' := [vI 320, vI l4, vI l1, vR 137]) (g' := q8) k181_108 rfl rfl ?_
      refine q_s (pc' := 113) (ls' := [vR 137, vI l1, vI l2, vI l3, vI l4, vI l5, vI l6, vI q6.1, vU, vU]) (st' := [vI l5, vI 320, vI l4, vI l1, vR 137]) (g' := q8) k181_111 rfl rfl ?_
      refine q_s (pc' := 114) (ls' := [vR 137, vI l1, vI l2, vI l3, vI l4, vI l5, vI l6, vI q6.1, vU, vU]) (st' := [vI (iw (320 + l5)), vI l4, vI l1, vR 137]) (g' := q8) k181_113 rfl rfl ?_
      refine q_callV (ls0 := [vR 137, vI l1, vI l4, vI (iw (320 + l5)), vU]) (rest := []) (pc' := 117) rfl k181_114 rfl (hy4 rfl rfl rfl rfl) rfl rfl hq_179 rfl (fun q9 => ?_)
      exact q_e k181_117 rfl rfl rfl
    · refine q_s (pc' := 72) (ls' := [vR 137, vI l1, vI l2, vI l3, vI l4, vI l5, vI l6, vI q6.1, vU, vU]) (st' := [vI l6]) (g' := q6.2) k181_70 rfl rfl ?_
      refine q_s (pc' := 73) (ls' := [vR 137, vI l1, vI l2, vI l3, vI l4, vI l5, vI l6, vI q6.1, vU, vU]) (st' := [vI 1, vI l6]) (g' := q6.2) k181_72 rfl rfl ?_
      refine q_s (pc' := 74) (ls' := [vR 137, vI l1, vI l2, vI l3, vI l4, vI l5, vI l6, vI q6.1, vU, vU]) (st' := [vI (iw (l6 - 1))]) (g' := q6.2) k181_73 rfl rfl ?_
      refine q_s (pc' := 76) (ls' := [vR 137, vI l1, vI l2, vI l3, vI l4, vI l5, vI l6, vI q6.1, vU, vU]) (st' := [vI q6.1, vI (iw (l6 - 1))]) (g' := q6.2) k181_74 rfl rfl ?_
      refine q_s (pc' := 77) (ls' := [vR 137, vI l1, vI l2, vI l3, vI l4, vI l5, vI l6, vI q6.1, vU, vU]) (st' := [vI (iw ((iw (l6 - 1)) * q6.1))]) (g' := q6.2) k181_76 rfl rfl ?_
      refine q_s (pc' := 79) (ls' := [vR 137, vI l1, vI l2, vI l3, vI l4, vI l5, vI l6, vI q6.1, vU, vU]) (st' := [vI l6, vI (iw ((iw (l6 - 1)) * q6.1))]) (g' := q6.2) k181_77 rfl rfl ?_
      refine q_s (pc' := 80) (ls' := [vR 137, vI l1, vI l2, vI l3, vI l4, vI l5, vI l6, vI q6.1, vU, vU]) (st' := [vI 1, vI l6, vI (iw ((iw (l6 - 1)) * q6.1))]) (g' := q6.2) k181_79 rfl rfl ?_
      refine q_s (pc' := 81) (ls' := [vR 137, vI l1, vI l2, vI l3, vI l4, vI l5, vI l6, vI q6.1, vU, vU]) (st' := [vI (iw (l6 + 1)), vI (iw ((iw (l6 - 1)) * q6.1))]) (g' := q6.2) k181_80 rfl rfl ?_
      refine q_s (pc' := 82) (ls' := [vR 137, vI l1, vI l2, vI l3, vI l4, vI l5, vI l6, vI q6.1, vU, vU]) (st' := [vI l3, vI (iw (l6 + 1)), vI (iw ((iw (l6 - 1)) * q6.1))]) (g' := q6.2) k181_81 rfl rfl ?_
      refine q_s (pc' := 84) (ls' := [vR 137, vI l1, vI l2, vI l3, vI l4, vI l5, vI l6, vI q6.1, vU, vU]) (st' := [vI l5, vI l3, vI (iw (l6 + 1)), vI (iw ((iw (l6 - 1)) * q6.1))]) (g' := q6.2) k181_82 rfl rfl ?_
      refine q_callI (ls0 := [vI l3, vI l5]) (rest := [vI (iw (l6 + 1)), vI (iw ((iw (l6 - 1)) * q6.1))]) (pc' := 87) rfl k181_84 rfl (hy4 rfl rfl rfl rfl) rfl rfl hq_172 rfl (fun q10 => ?_)
      refine q_s (pc' := 88) (ls' := [vR 137, vI l1, vI l2, vI l3, vI l4, vI l5, vI l6, vI q6.1, vU, vU]) (st' := [vI (iw ((iw (l6 + 1)) * q10.1)), vI (iw ((iw (l6 - 1)) * q6.1))]) (g' := q10.2) k181_87 rfl rfl ?_
      refine q_ic (P := iw ((iw (l6 - 1)) * q6.1) < iw ((iw (l6 + 1)) * q10.1)) (t := 118) (pc' := 91) k181_88 Iff.rfl rfl rfl (fun h11 => ?_) (fun h11 => ?_)
      · refine q_s (pc' := 119) (ls' := [vR 137, vI l1, vI l2, vI l3, vI l4, vI l5, vI l6, vI q6.1, vU, vU]) (st' := [vI l2]) (g' := q10.2) k181_118 rfl rfl ?_
        refine q_s (pc' := 121) (ls' := [vR 137, vI l1, vI l2, vI l3, vI l4, vI l5, vI l6, vI q6.1, vI l2, vU]) (st' := []) (g' := q10.2) k181_119 rfl rfl ?_
        refine q_s (pc' := 122) (ls' := [vR 137, vI l1, vI l2, vI l3, vI l4, vI l5, vI l6, vI q6.1, vI l2, vU]) (st' := [vI 1]) (g' := q10.2) k181_121 rfl rfl ?_
        refine q_s (pc' := 124) (ls' := [vR 137, vI l1, vI l2, vI l3, vI l4, vI l5, vI l6, vI q6.1, vI l2, vI 1]) (st' := []) (g' := q10.2) k181_122 rfl rfl ?_
        rfl
      · refine q_s (pc' := 92) (ls' := [vR 137, vI l1, vI l2, vI l3, vI l4, vI l5, vI l6, vI q6.1, vU, vU]) (st' := [vR 137]) (g' := q10.2) k181_91 rfl rfl ?_
        refine q_s (pc' := 93) (ls' := [vR 137, vI l1, vI l2, vI l3, vI l4, vI l5, vI l6, vI q6.1, vU, vU]) (st' := [vI 0, vR 137]) (g' := q10.2) k181_92 rfl rfl ?_
        refine q_s (pc' := 96) (ls' := [vR 137, vI l1, vI l2, vI l3, vI l4, vI l5, vI l6, vI q6.1, vU, vU]) (st' := [vI 320, vI 0, vR 137]) (g' := q10.2) k181_93 rfl rfl ?_
        refine q_s (pc' := 98) (ls' := [vR 137, vI l1, vI l2, vI l3, vI l4, vI l5, vI l6, vI q6.1, vU, vU]) (st' := [vI l5, vI 320, vI 0, vR 137]) (g' := q10.2) k181_96 rfl rfl ?_
        refine q_s (pc' := 99) (ls' := [vR 137, vI l1, vI l2, vI l3, vI l4, vI l5, vI l6, vI q6.1, vU, vU]) (st' := [vI (iw (320 + l5)), vI 0, vR 137]) (g' := q10.2) k181_98 rfl rfl ?_
        refine q_s (pc' := 101) (ls' := [vR 137, vI l1, vI l2, vI l3, vI l4, vI l5, vI l6, vI q6.1, vU, vU]) (st' := [vI l4, vI (iw (320 + l5)), vI 0, vR 137]) (g' := q10.2) k181_99 rfl rfl ?_
        refine q_callV (ls0 := [vR 137, vI 0, vI (iw (320 + l5)), vI l4]) (rest := []) (pc' := 104) rfl k181_101 rfl (hy4 rfl rfl rfl rfl) rfl rfl hq_174 rfl (fun q12 => ?_)
        refine q_s (pc' := 105) (ls' := [vR 137, vI l1, vI l2, vI l3, vI l4, vI l5, vI l6, vI q6.1, vU, vU]) (st' := [vR 137]) (g' := q12) k181_104 rfl rfl ?_
        refine q_s (pc' := 106) (ls' := [vR 137, vI l1, vI l2, vI l3, vI l4, vI l5, vI l6, vI q6.1, vU, vU]) (st' := [vI l1, vR 137]) (g' := q12) k181_105 rfl rfl ?_
        refine q_s (pc' := 108) (ls' := [vR 137, vI l1, vI l2, vI l3, vI l4, vI l5, vI l6, vI q6.1, vU, vU]) (st' := [vI l4, vI l1, vR 137]) (g' := q12) k181_106 rfl rfl ?_
        refine q_s (pc' := 111) (ls' := [vR 137, vI l1, vI l2, vI l3, vI l4, vI l5, vI l6, vI q6.1, vU, vU]) (st' := [vI 320, vI l4, vI l1, vR 137]) (g' := q12) k181_108 rfl rfl ?_
        refine q_s (pc' := 113) (ls' := [vR 137, vI l1, vI l2, vI l3, vI l4, vI l5, vI l6, vI q6.1, vU, vU]) (st' := [vI l5, vI 320, vI l4, vI l1, vR 137]) (g' := q12) k181_111 rfl rfl ?_
        refine q_s (pc' := 114) (ls' := [vR 137, vI l1, vI l2, vI l3, vI l4, vI l5, vI l6, vI q6.1, vU, vU]) (st' := [vI (iw (320 + l5)), vI l4, vI l1, vR 137]) (g' := q12) k181_113 rfl rfl ?_
        refine q_callV (ls0 := [vR 137, vI l1, vI l4, vI (iw (320 + l5)), vU]) (rest := []) (pc' := 117) rfl k181_114 rfl (hy4 rfl rfl rfl rfl) rfl rfl hq_179 rfl (fun q13 => ?_)
        exact q_e k181_117 rfl rfl rfl
  · refine q_s (pc' := 40) (ls' := [vR 137, vI l1, vI l2, vI l3, vI l4, vI l5, vI (iw (l6 + 1)), vI l7, vU, vU]) (st' := []) (g' := g) k181_37 rfl rfl ?_
    refine q_s (pc' := 41) (ls' := [vR 137, vI l1, vI l2, vI l3, vI l4, vI l5, vI (iw (l6 + 1)), vI l7, vU, vU]) (st' := [vR 137]) (g' := g) k181_40 rfl rfl ?_
    refine q_s (pc' := 42) (ls' := [vR 137, vI l1, vI l2, vI l3, vI l4, vI l5, vI (iw (l6 + 1)), vI l7, vU, vU]) (st' := [vI l1, vR 137]) (g' := g) k181_41 rfl rfl ?_
    refine q_s (pc' := 43) (ls' := [vR 137, vI l1, vI l2, vI l3, vI l4, vI l5, vI (iw (l6 + 1)), vI l7, vU, vU]) (st' := [vR 137, vI l1, vR 137]) (g' := g) k181_42 rfl rfl ?_
    refine q_getF (r := 149) (pc' := 46) k181_43 rfl rfl rfl rfl ?_
    refine q_s (pc' := 48) (ls' := [vR 137, vI l1, vI l2, vI l3, vI l4, vI l5, vI (iw (l6 + 1)), vI l7, vU, vU]) (st' := [vI l7, vR 149, vI l1, vR 137]) (g' := g) k181_46 rfl rfl ?_
    refine q_iald (n := 6) (pc' := 49) rfl k181_48 rfl rfl (fun h14 => ?_)
    refine q_callI (ls0 := [vR 137, vI l1, vI (g 149 l7), vU, vU]) (rest := []) (pc' := 52) rfl k181_49 rfl (hy4 rfl rfl rfl rfl) rfl rfl hq_178 rfl (fun q15 => ?_)
    refine q_s (pc' := 54) (ls' := [vR 137, vI l1, vI l2, vI l3, vI l4, vI l5, vI (iw (l6 + 1)), vI q15.1, vU, vU]) (st' := []) (g' := q15.2) k181_52 rfl rfl ?_
    refine q_s (pc' := 31) (ls' := [vR 137, vI l1, vI l2, vI l3, vI l4, vI l5, vI (iw (l6 + 1)), vI q15.1, vU, vU]) (st' := []) (g' := q15.2) k181_54 rfl rfl ?_
    rfl
set_option maxHeartbeats 4000000 in
theorem jM_breaks_124_eq (L : Nat) (l1 : Int) (l2 : Int) (l3 : Int) (l4 : Int) (l5 : Int) (l6 : Int) (l7 : Int) (l8 : Int) (l9 : Int) (g : AMem) : jM_breaks_124 L l1 l2 l3 l4 l5 l6 l7 l8 l9 g = if l6 ≤ l9 then (if (0 ≤ l8 ∧ l8 < 6) ∧ ((0 : Int) = 0 ∨ (0 : Int) = 1) then (some (up g 148 l8 0)) else none) else ((jM_parameterOf L l1 l8 g).bind (fun q18 => if 0 ≤ l8 ∧ l8 < 6 then ((jM_comes L 1 q18.1 (q18.2 149 l8) q18.2).bind (fun q20 => if (0 ≤ l8 ∧ l8 < 6) ∧ ((0 : Int) = 0 ∨ (0 : Int) = 1) then (if 0 ≤ l8 ∧ l8 < 6 then ((jM_whoHas L l1 ((up q20 148 l8 0) 149 l8) (up q20 148 l8 0)).bind (fun q23 => jM_breaks_124 L l1 l2 l3 l4 l5 l6 l7 q23.1 (iw (l9 + 1)) q23.2)) else none) else none)) else none)) := by
  unfold jM_breaks_124
  refine q_s (pc' := 126) (ls' := [vR 137, vI l1, vI l2, vI l3, vI l4, vI l5, vI l6, vI l7, vI l8, vI l9]) (st' := [vI l9]) (g' := g) k181_124 rfl rfl ?_
  refine q_s (pc' := 128) (ls' := [vR 137, vI l1, vI l2, vI l3, vI l4, vI l5, vI l6, vI l7, vI l8, vI l9]) (st' := [vI l6, vI l9]) (g' := g) k181_126 rfl rfl ?_
  refine q_ic (P := l6 ≤ l9) (t := 178) (pc' := 131) k181_128 Iff.rfl rfl rfl (fun h16 => ?_) (fun h16 => ?_)
  · refine q_s (pc' := 179) (ls' := [vR 137, vI l1, vI l2, vI l3, vI l4, vI l5, vI l6, vI l7, vI l8, vI l9]) (st' := [vR 137]) (g' := g) k181_178 rfl rfl ?_
    refine q_getF (r := 148) (pc' := 182) k181_179 rfl rfl rfl rfl ?_
    refine q_s (pc' := 184) (ls' := [vR 137, vI l1, vI l2, vI l3, vI l4, vI l5, vI l6, vI l7, vI l8, vI l9]) (st' := [vI l8, vR 148]) (g' := g) k181_182 rfl rfl ?_
    refine q_s (pc' := 185) (ls' := [vR 137, vI l1, vI l2, vI l3, vI l4, vI l5, vI l6, vI l7, vI l8, vI l9]) (st' := [vI 0, vI l8, vR 148]) (g' := g) k181_184 rfl rfl ?_
    refine q_bast (n := 6) (pc' := 186) rfl k181_185 rfl rfl (fun h17 => ?_)
    exact q_e k181_186 rfl rfl rfl
  · refine q_s (pc' := 132) (ls' := [vR 137, vI l1, vI l2, vI l3, vI l4, vI l5, vI l6, vI l7, vI l8, vI l9]) (st' := [vR 137]) (g' := g) k181_131 rfl rfl ?_
    refine q_s (pc' := 133) (ls' := [vR 137, vI l1, vI l2, vI l3, vI l4, vI l5, vI l6, vI l7, vI l8, vI l9]) (st' := [vI 1, vR 137]) (g' := g) k181_132 rfl rfl ?_
    refine q_s (pc' := 134) (ls' := [vR 137, vI l1, vI l2, vI l3, vI l4, vI l5, vI l6, vI l7, vI l8, vI l9]) (st' := [vR 137, vI 1, vR 137]) (g' := g) k181_133 rfl rfl ?_
    refine q_s (pc' := 135) (ls' := [vR 137, vI l1, vI l2, vI l3, vI l4, vI l5, vI l6, vI l7, vI l8, vI l9]) (st' := [vI l1, vR 137, vI 1, vR 137]) (g' := g) k181_134 rfl rfl ?_
    refine q_s (pc' := 137) (ls' := [vR 137, vI l1, vI l2, vI l3, vI l4, vI l5, vI l6, vI l7, vI l8, vI l9]) (st' := [vI l8, vI l1, vR 137, vI 1, vR 137]) (g' := g) k181_135 rfl rfl ?_
    refine q_callI (ls0 := [vR 137, vI l1, vI l8]) (rest := [vI 1, vR 137]) (pc' := 140) rfl k181_137 rfl (hy4 rfl rfl rfl rfl) rfl rfl hq_147 rfl (fun q18 => ?_)
    refine q_s (pc' := 141) (ls' := [vR 137, vI l1, vI l2, vI l3, vI l4, vI l5, vI l6, vI l7, vI l8, vI l9]) (st' := [vR 137, vI q18.1, vI 1, vR 137]) (g' := q18.2) k181_140 rfl rfl ?_
    refine q_getF (r := 149) (pc' := 144) k181_141 rfl rfl rfl rfl ?_
    refine q_s (pc' := 146) (ls' := [vR 137, vI l1, vI l2, vI l3, vI l4, vI l5, vI l6, vI l7, vI l8, vI l9]) (st' := [vI l8, vR 149, vI q18.1, vI 1, vR 137]) (g' := q18.2) k181_144 rfl rfl ?_
    refine q_iald (n := 6) (pc' := 147) rfl k181_146 rfl rfl (fun h19 => ?_)
    refine q_callV (ls0 := [vR 137, vI 1, vI q18.1, vI (q18.2 149 l8)]) (rest := []) (pc' := 150) rfl k181_147 rfl (hy4 rfl rfl rfl rfl) rfl rfl hq_174 rfl (fun q20 => ?_)
    refine q_s (pc' := 151) (ls' := [vR 137, vI l1, vI l2, vI l3, vI l4, vI l5, vI l6, vI l7, vI l8, vI l9]) (st' := [vR 137]) (g' := q20) k181_150 rfl rfl ?_
    refine q_getF (r := 148) (pc' := 154) k181_151 rfl rfl rfl rfl ?_
    refine q_s (pc' := 156) (ls' := [vR 137, vI l1, vI l2, vI l3, vI l4, vI l5, vI l6, vI l7, vI l8, vI l9]) (st' := [vI l8, vR 148]) (g' := q20) k181_154 rfl rfl ?_
    refine q_s (pc' := 157) (ls' := [vR 137, vI l1, vI l2, vI l3, vI l4, vI l5, vI l6, vI l7, vI l8, vI l9]) (st' := [vI 0, vI l8, vR 148]) (g' := q20) k181_156 rfl rfl ?_
    refine q_bast (n := 6) (pc' := 158) rfl k181_157 rfl rfl (fun h21 => ?_)
    refine q_s (pc' := 159) (ls' := [vR 137, vI l1, vI l2, vI l3, vI l4, vI l5, vI l6, vI l7, vI l8, vI l9]) (st' := [vR 137]) (g' := up q20 148 l8 0) k181_158 rfl rfl ?_
    refine q_s (pc' := 160) (ls' := [vR 137, vI l1, vI l2, vI l3, vI l4, vI l5, vI l6, vI l7, vI l8, vI l9]) (st' := [vI l1, vR 137]) (g' := up q20 148 l8 0) k181_159 rfl rfl ?_
    refine q_s (pc' := 161) (ls' := [vR 137, vI l1, vI l2, vI l3, vI l4, vI l5, vI l6, vI l7, vI l8, vI l9]) (st' := [vR 137, vI l1, vR 137]) (g' := up q20 148 l8 0) k181_160 rfl rfl ?_
    refine q_getF (r := 149) (pc' := 164) k181_161 rfl rfl rfl rfl ?_
    refine q_s (pc' := 166) (ls' := [vR 137, vI l1, vI l2, vI l3, vI l4, vI l5, vI l6, vI l7, vI l8, vI l9]) (st' := [vI l8, vR 149, vI l1, vR 137]) (g' := up q20 148 l8 0) k181_164 rfl rfl ?_
    refine q_iald (n := 6) (pc' := 167) rfl k181_166 rfl rfl (fun h22 => ?_)
    refine q_callI (ls0 := [vR 137, vI l1, vI ((up q20 148 l8 0) 149 l8), vU, vU]) (rest := []) (pc' := 170) rfl k181_167 rfl (hy4 rfl rfl rfl rfl) rfl rfl hq_178 rfl (fun q23 => ?_)
    refine q_s (pc' := 172) (ls' := [vR 137, vI l1, vI l2, vI l3, vI l4, vI l5, vI l6, vI l7, vI q23.1, vI l9]) (st' := []) (g' := q23.2) k181_170 rfl rfl ?_
    refine q_s (pc' := 175) (ls' := [vR 137, vI l1, vI l2, vI l3, vI l4, vI l5, vI l6, vI l7, vI q23.1, vI (iw (l9 + 1))]) (st' := []) (g' := q23.2) k181_172 rfl rfl ?_
    refine q_s (pc' := 124) (ls' := [vR 137, vI l1, vI l2, vI l3, vI l4, vI l5, vI l6, vI l7, vI q23.1, vI (iw (l9 + 1))]) (st' := []) (g' := q23.2) k181_175 rfl rfl ?_
    rfl
set_option maxHeartbeats 4000000 in
theorem jM_setOpen_eq (L : Nat) (a1 : Int) (g : AMem) : jM_setOpen L a1 g = jM_setOpen_2 L a1 0 g := by
  unfold jM_setOpen
  refine q_s (pc' := 1) (ls' := [vR 137, vI a1, vU]) (st' := [vI 0]) (g' := g) k182_0 rfl rfl ?_
  refine q_s (pc' := 2) (ls' := [vR 137, vI a1, vI 0]) (st' := []) (g' := g) k182_1 rfl rfl ?_
  rfl
set_option maxHeartbeats 4000000 in
theorem jM_setOpen_2_eq (L : Nat) (l1 : Int) (l2 : Int) (g : AMem) : jM_setOpen_2 L l1 l2 g = (jM_manyOf L l1 g).bind (fun q1 => if q1.1 ≤ l2 then (some q1.2) else ((jM_moves L l1 l2 q1.2).bind (fun q3 => if q3.1 = 0 then (if (0 ≤ l2 ∧ l2 < 6) ∧ ((0 : Int) = 0 ∨ (0 : Int) = 1) then (if 0 ≤ l2 ∧ l2 < 6 then (if (up q3.2 148 l2 0) 148 l2 = 0 then (if 0 ≤ l2 ∧ l2 < 6 then (jM_setOpen_2 L l1 (iw (l2 + 1)) (up (up q3.2 148 l2 0) 149 l2 (-201))) else none) else ((jM_givenOf L l1 l2 (up q3.2 148 l2 0)).bind (fun q9 => if 0 ≤ l2 ∧ l2 < 6 then (jM_setOpen_2 L l1 (iw (l2 + 1)) (up q9.2 149 l2 q9.1)) else none))) else none) else none) else ((jM_givenOf L l1 l2 q3.2).bind (fun q11 => if q11.1 ≤ 0 then (if (0 ≤ l2 ∧ l2 < 6) ∧ ((0 : Int) = 0 ∨ (0 : Int) = 1) then (if 0 ≤ l2 ∧ l2 < 6 then (if (up q11.2 148 l2 0) 148 l2 = 0 then (if 0 ≤ l2 ∧ l2 < 6 then (jM_setOpen_2 L l1 (iw (l2 + 1)) (up (up q11.2 148 l2 0) 149 l2 (-201))) else none) else ((jM_givenOf L l1 l2 (up q11.2 148 l2 0)).bind (fun q17 => if 0 ≤ l2 ∧ l2 < 6 then (jM_setOpen_2 L l1 (iw (l2 + 1)) (up q17.2 149 l2 q17.1)) else none))) else none) else none) else (if (0 ≤ l2 ∧ l2 < 6) ∧ ((1 : Int) = 0 ∨ (1 : Int) = 1) then (if 0 ≤ l2 ∧ l2 < 6 then (if (up q11.2 148 l2 1) 148 l2 = 0 then (if 0 ≤ l2 ∧ l2 < 6 then (jM_setOpen_2 L l1 (iw (l2 + 1)) (up (up q11.2 148 l2 1) 149 l2 (-201))) else none) else ((jM_givenOf L l1 l2 (up q11.2 148 l2 1)).bind (fun q23 => if 0 ≤ l2 ∧ l2 < 6 then (jM_setOpen_2 L l1 (iw (l2 + 1)) (up q23.2 149 l2 q23.1)) else none))) else none) else none)))))) := by
  unfold jM_setOpen_2
  refine q_s (pc' := 3) (ls' := [vR 137, vI l1, vI l2]) (st' := [vI l2]) (g' := g) k182_2 rfl rfl ?_
  refine q_s (pc' := 4) (ls' := [vR 137, vI l1, vI l2]) (st' := [vR 137, vI l2]) (g' := g) k182_3 rfl rfl ?_
  refine q_s (pc' := 5) (ls' := [vR 137, vI l1, vI l2]) (st' := [vI l1, vR 137, vI l2]) (g' := g) k182_4 rfl rfl ?_
  refine q_callI (ls0 := [vR 137, vI l1]) (rest := [vI l2]) (pc' := 8) rfl k182_5 rfl (hy4 rfl rfl rfl rfl) rfl rfl hq_148 rfl (fun q1 => ?_)
  refine q_ic (P := q1.1 ≤ l2) (t := 73) (pc' := 11) k182_8 Iff.rfl rfl rfl (fun h2 => ?_) (fun h2 => ?_)
  · exact q_e k182_73 rfl rfl rfl
  · refine q_s (pc' := 12) (ls' := [vR 137, vI l1, vI l2]) (st' := [vR 137]) (g' := q1.2) k182_11 rfl rfl ?_
    refine q_getF (r := 148) (pc' := 15) k182_12 rfl rfl rfl rfl ?_
    refine q_s (pc' := 16) (ls' := [vR 137, vI l1, vI l2]) (st' := [vI l2, vR 148]) (g' := q1.2) k182_15 rfl rfl ?_
    refine q_s (pc' := 17) (ls' := [vR 137, vI l1, vI l2]) (st' := [vR 137, vI l2, vR 148]) (g' := q1.2) k182_16 rfl rfl ?_
    refine q_s (pc' := 18) (ls' := [vR 137, vI l1, vI l2]) (st' := [vI l1, vR 137, vI l2, vR 148]) (g' := q1.2) k182_17 rfl rfl ?_
    refine q_s (pc' := 19) (ls' := [vR 137, vI l1, vI l2]) (st' := [vI l2, vI l1, vR 137, vI l2, vR 148]) (g' := q1.2) k182_18 rfl rfl ?_
    refine q_callI (ls0 := [vR 137, vI l1, vI l2]) (rest := [vI l2, vR 148]) (pc' := 22) rfl k182_19 rfl (hy4 rfl rfl rfl rfl) rfl rfl hq_165 rfl (fun q3 => ?_)
    refine q_if (P := q3.1 = 0) (t := 38) (pc' := 25) k182_22 Iff.rfl rfl rfl (fun h4 => ?_) (fun h4 => ?_)
    · refine q_s (pc' := 39) (ls' := [vR 137, vI l1, vI l2]) (st' := [vI 0, vI l2, vR 148]) (g' := q3.2) k182_38 rfl rfl ?_
      refine q_bast (n := 6) (pc' := 40) rfl k182_39 rfl rfl (fun h5 => ?_)
      refine q_s (pc' := 41) (ls' := [vR 137, vI l1, vI l2]) (st' := [vR 137]) (g' := up q3.2 148 l2 0) k182_40 rfl rfl ?_
      refine q_getF (r := 149) (pc' := 44) k182_41 rfl rfl rfl rfl ?_
      refine q_s (pc' := 45) (ls' := [vR 137, vI l1, vI l2]) (st' := [vI l2, vR 149]) (g' := up q3.2 148 l2 0) k182_44 rfl rfl ?_
      refine q_s (pc' := 46) (ls' := [vR 137, vI l1, vI l2]) (st' := [vR 137, vI l2, vR 149]) (g' := up q3.2 148 l2 0) k182_45 rfl rfl ?_
      refine q_getF (r := 148) (pc' := 49) k182_46 rfl rfl rfl rfl ?_
      refine q_s (pc' := 50) (ls' := [vR 137, vI l1, vI l2]) (st' := [vI l2, vR 148, vI l2, vR 149]) (g' := up q3.2 148 l2 0) k182_49 rfl rfl ?_
      refine q_bald (n := 6) (pc' := 51) rfl k182_50 rfl rfl (fun h6 => ?_)
      refine q_if (P := (up q3.2 148 l2 0) 148 l2 = 0) (t := 63) (pc' := 54) k182_51 Iff.rfl rfl rfl (fun h7 => ?_) (fun h7 => ?_)
      · refine q_s (pc' := 66) (ls' := [vR 137, vI l1, vI l2]) (st' := [vI (-201), vI l2, vR 149]) (g' := up q3.2 148 l2 0) k182_63 rfl rfl ?_
        refine q_iast (n := 6) (pc' := 67) rfl k182_66 rfl (by decide) rfl (fun h8 => ?_)
        refine q_s (pc' := 70) (ls' := [vR 137, vI l1, vI (iw (l2 + 1))]) (st' := []) (g' := up (up q3.2 148 l2 0) 149 l2 (-201)) k182_67 rfl rfl ?_
        refine q_s (pc' := 2) (ls' := [vR 137, vI l1, vI (iw (l2 + 1))]) (st' := []) (g' := up (up q3.2 148 l2 0) 149 l2 (-201)) k182_70 rfl rfl ?_
        rfl
      · refine q_s (pc' := 55) (ls' := [vR 137, vI l1, vI l2]) (st' := [vR 137, vI l2, vR 149]) (g' := up q3.2 148 l2 0) k182_54 rfl rfl ?_
        refine q_s (pc' := 56) (ls' := [vR 137, vI l1, vI l2]) (st' := [vI l1, vR 137, vI l2, vR 149]) (g' := up q3.2 148 l2 0) k182_55 rfl rfl ?_
        refine q_s (pc' := 57) (ls' := [vR 137, vI l1, vI l2]) (st' := [vI l2, vI l1, vR 137, vI l2, vR 149]) (g' := up q3.2 148 l2 0) k182_56 rfl rfl ?_
        refine q_callI (ls0 := [vR 137, vI l1, vI l2]) (rest := [vI l2, vR 149]) (pc' := 60) rfl k182_57 rfl (hy4 rfl rfl rfl rfl) rfl rfl hq_149 rfl (fun q9 => ?_)
        refine q_s (pc' := 66) (ls' := [vR 137, vI l1, vI l2]) (st' := [vI q9.1, vI l2, vR 149]) (g' := q9.2) k182_60 rfl rfl ?_
        refine q_iast (n := 6) (pc' := 67) rfl k182_66 rfl (by decide) rfl (fun h10 => ?_)
        refine q_s (pc' := 70) (ls' := [vR 137, vI l1, vI (iw (l2 + 1))]) (st' := []) (g' := up q9.2 149 l2 q9.1) k182_67 rfl rfl ?_
        refine q_s (pc' := 2) (ls' := [vR 137, vI l1, vI (iw (l2 + 1))]) (st' := []) (g' := up q9.2 149 l2 q9.1) k182_70 rfl rfl ?_
        rfl
    · refine q_s (pc' := 26) (ls' := [vR 137, vI l1, vI l2]) (st' := [vR 137, vI l2, vR 148]) (g' := q3.2) k182_25 rfl rfl ?_
      refine q_s (pc' := 27) (ls' := [vR 137, vI l1, vI l2]) (st' := [vI l1, vR 137, vI l2, vR 148]) (g' := q3.2) k182_26 rfl rfl ?_
      refine q_s (pc' := 28) (ls' := [vR 137, vI l1, vI l2]) (st' := [vI l2, vI l1, vR 137, vI l2, vR 148]) (g' := q3.2) k182_27 rfl rfl ?_
      refine q_callI (ls0 := [vR 137, vI l1, vI l2]) (rest := [vI l2, vR 148]) (pc' := 31) rfl k182_28 rfl (hy4 rfl rfl rfl rfl) rfl rfl hq_149 rfl (fun q11 => ?_)
      refine q_if (P := q11.1 ≤ 0) (t := 38) (pc' := 34) k182_31 Iff.rfl rfl rfl (fun h12 => ?_) (fun h12 => ?_)
      · refine q_s (pc' := 39) (ls' := [vR 137, vI l1, vI l2]) (st' := [vI 0, vI l2, vR 148]) (g' := q11.2) k182_38 rfl rfl ?_
        refine q_bast (n := 6) (pc' := 40) rfl k182_39 rfl rfl (fun h13 => ?_)
        refine q_s (pc' := 41) (ls' := [vR 137, vI l1, vI l2]) (st' := [vR 137]) (g' := up q11.2 148 l2 0) k182_40 rfl rfl ?_
        refine q_getF (r := 149) (pc' := 44) k182_41 rfl rfl rfl rfl ?_
        refine q_s (pc' := 45) (ls' := [vR 137, vI l1, vI l2]) (st' := [vI l2, vR 149]) (g' := up q11.2 148 l2 0) k182_44 rfl rfl ?_
        refine q_s (pc' := 46) (ls' := [vR 137, vI l1, vI l2]) (st' := [vR 137, vI l2, vR 149]) (g' := up q11.2 148 l2 0) k182_45 rfl rfl ?_
        refine q_getF (r := 148) (pc' := 49) k182_46 rfl rfl rfl rfl ?_
        refine q_s (pc' := 50) (ls' := [vR 137, vI l1, vI l2]) (st' := [vI l2, vR 148, vI l2, vR 149]) (g' := up q11.2 148 l2 0) k182_49 rfl rfl ?_
        refine q_bald (n := 6) (pc' := 51) rfl k182_50 rfl rfl (fun h14 => ?_)
        refine q_if (P := (up q11.2 148 l2 0) 148 l2 = 0) (t := 63) (pc' := 54) k182_51 Iff.rfl rfl rfl (fun h15 => ?_) (fun h15 => ?_)
        · refine q_s (pc' := 66) (ls' := [vR 137, vI l1, vI l2]) (st' := [vI (-201), vI l2, vR 149]) (g' := up q11.2 148 l2 0) k182_63 rfl rfl ?_
          refine q_iast (n := 6) (pc' := 67) rfl k182_66 rfl (by decide) rfl (fun h16 => ?_)
          refine q_s (pc' := 70) (ls' := [vR 137, vI l1, vI (iw (l2 + 1))]) (st' := []) (g' := up (up q11.2 148 l2 0) 149 l2 (-201)) k182_67 rfl rfl ?_
          refine q_s (pc' := 2) (ls' := [vR 137, vI l1, vI (iw (l2 + 1))]) (st' := []) (g' := up (up q11.2 148 l2 0) 149 l2 (-201)) k182_70 rfl rfl ?_
          rfl
        · refine q_s (pc' := 55) (ls' := [vR 137, vI l1, vI l2]) (st' := [vR 137, vI l2, vR 149]) (g' := up q11.2 148 l2 0) k182_54 rfl rfl ?_
          refine q_s (pc' := 56) (ls' := [vR 137, vI l1, vI l2]) (st' := [vI l1, vR 137, vI l2, vR 149]) (g' := up q11.2 148 l2 0) k182_55 rfl rfl ?_
          refine q_s (pc' := 57) (ls' := [vR 137, vI l1, vI l2]) (st' := [vI l2, vI l1, vR 137, vI l2, vR 149]) (g' := up q11.2 148 l2 0) k182_56 rfl rfl ?_
          refine q_callI (ls0 := [vR 137, vI l1, vI l2]) (rest := [vI l2, vR 149]) (pc' := 60) rfl k182_57 rfl (hy4 rfl rfl rfl rfl) rfl rfl hq_149 rfl (fun q17 => ?_)
          refine q_s (pc' := 66) (ls' := [vR 137, vI l1, vI l2]) (st' := [vI q17.1, vI l2, vR 149]) (g' := q17.2) k182_60 rfl rfl ?_
          refine q_iast (n := 6) (pc' := 67) rfl k182_66 rfl (by decide) rfl (fun h18 => ?_)
          refine q_s (pc' := 70) (ls' := [vR 137, vI l1, vI (iw (l2 + 1))]) (st' := []) (g' := up q17.2 149 l2 q17.1) k182_67 rfl rfl ?_
          refine q_s (pc' := 2) (ls' := [vR 137, vI l1, vI (iw (l2 + 1))]) (st' := []) (g' := up q17.2 149 l2 q17.1) k182_70 rfl rfl ?_
          rfl
      · refine q_s (pc' := 35) (ls' := [vR 137, vI l1, vI l2]) (st' := [vI 1, vI l2, vR 148]) (g' := q11.2) k182_34 rfl rfl ?_
        refine q_s (pc' := 39) (ls' := [vR 137, vI l1, vI l2]) (st' := [vI 1, vI l2, vR 148]) (g' := q11.2) k182_35 rfl rfl ?_
        refine q_bast (n := 6) (pc' := 40) rfl k182_39 rfl rfl (fun h19 => ?_)
        refine q_s (pc' := 41) (ls' := [vR 137, vI l1, vI l2]) (st' := [vR 137]) (g' := up q11.2 148 l2 1) k182_40 rfl rfl ?_
        refine q_getF (r := 149) (pc' := 44) k182_41 rfl rfl rfl rfl ?_
        refine q_s (pc' := 45) (ls' := [vR 137, vI l1, vI l2]) (st' := [vI l2, vR 149]) (g' := up q11.2 148 l2 1) k182_44 rfl rfl ?_
        refine q_s (pc' := 46) (ls' := [vR 137, vI l1, vI l2]) (st' := [vR 137, vI l2, vR 149]) (g' := up q11.2 148 l2 1) k182_45 rfl rfl ?_
        refine q_getF (r := 148) (pc' := 49) k182_46 rfl rfl rfl rfl ?_
        refine q_s (pc' := 50) (ls' := [vR 137, vI l1, vI l2]) (st' := [vI l2, vR 148, vI l2, vR 149]) (g' := up q11.2 148 l2 1) k182_49 rfl rfl ?_
        refine q_bald (n := 6) (pc' := 51) rfl k182_50 rfl rfl (fun h20 => ?_)
        refine q_if (P := (up q11.2 148 l2 1) 148 l2 = 0) (t := 63) (pc' := 54) k182_51 Iff.rfl rfl rfl (fun h21 => ?_) (fun h21 => ?_)
        · refine q_s (pc' := 66) (ls' := [vR 137, vI l1, vI l2]) (st' := [vI (-201), vI l2, vR 149]) (g' := up q11.2 148 l2 1) k182_63 rfl rfl ?_
          refine q_iast (n := 6) (pc' := 67) rfl k182_66 rfl (by decide) rfl (fun h22 => ?_)
          refine q_s (pc' := 70) (ls' := [vR 137, vI l1, vI (iw (l2 + 1))]) (st' := []) (g' := up (up q11.2 148 l2 1) 149 l2 (-201)) k182_67 rfl rfl ?_
          refine q_s (pc' := 2) (ls' := [vR 137, vI l1, vI (iw (l2 + 1))]) (st' := []) (g' := up (up q11.2 148 l2 1) 149 l2 (-201)) k182_70 rfl rfl ?_
          rfl
        · refine q_s (pc' := 55) (ls' := [vR 137, vI l1, vI l2]) (st' := [vR 137, vI l2, vR 149]) (g' := up q11.2 148 l2 1) k182_54 rfl rfl ?_
          refine q_s (pc' := 56) (ls' := [vR 137, vI l1, vI l2]) (st' := [vI l1, vR 137, vI l2, vR 149]) (g' := up q11.2 148 l2 1) k182_55 rfl rfl ?_
          refine q_s (pc' := 57) (ls' := [vR 137, vI l1, vI l2]) (st' := [vI l2, vI l1, vR 137, vI l2, vR 149]) (g' := up q11.2 148 l2 1) k182_56 rfl rfl ?_
          refine q_callI (ls0 := [vR 137, vI l1, vI l2]) (rest := [vI l2, vR 149]) (pc' := 60) rfl k182_57 rfl (hy4 rfl rfl rfl rfl) rfl rfl hq_149 rfl (fun q23 => ?_)
          refine q_s (pc' := 66) (ls' := [vR 137, vI l1, vI l2]) (st' := [vI q23.1, vI l2, vR 149]) (g' := q23.2) k182_60 rfl rfl ?_
          refine q_iast (n := 6) (pc' := 67) rfl k182_66 rfl (by decide) rfl (fun h24 => ?_)
          refine q_s (pc' := 70) (ls' := [vR 137, vI l1, vI (iw (l2 + 1))]) (st' := []) (g' := up q23.2 149 l2 q23.1) k182_67 rfl rfl ?_
          refine q_s (pc' := 2) (ls' := [vR 137, vI l1, vI (iw (l2 + 1))]) (st' := []) (g' := up q23.2 149 l2 q23.1) k182_70 rfl rfl ?_
          rfl
set_option maxHeartbeats 4000000 in
theorem jM_setSteps_eq (L : Nat) (a1 : Int) (a2 : Int) (g : AMem) : jM_setSteps L a1 a2 g = (jM_manyOf L a1 g).bind (fun q1 => (jM_setOpen L a1 (up q1.2 137 10 0)).bind (fun q2 => jM_setSteps_16 L a1 a2 q1.1 vU q2)) := by
  unfold jM_setSteps
  refine q_s (pc' := 1) (ls' := [vR 137, vI a1, vI a2, vU, vU, vU]) (st' := [vR 137]) (g' := g) k183_0 rfl rfl ?_
  refine q_s (pc' := 2) (ls' := [vR 137, vI a1, vI a2, vU, vU, vU]) (st' := [vI a1, vR 137]) (g' := g) k183_1 rfl rfl ?_
  refine q_callI (ls0 := [vR 137, vI a1]) (rest := []) (pc' := 5) rfl k183_2 rfl (hy4 rfl rfl rfl rfl) rfl rfl hq_148 rfl (fun q1 => ?_)
  refine q_s (pc' := 6) (ls' := [vR 137, vI a1, vI a2, vI q1.1, vU, vU]) (st' := []) (g' := q1.2) k183_5 rfl rfl ?_
  refine q_s (pc' := 7) (ls' := [vR 137, vI a1, vI a2, vI q1.1, vU, vU]) (st' := [vR 137]) (g' := q1.2) k183_6 rfl rfl ?_
  refine q_s (pc' := 8) (ls' := [vR 137, vI a1, vI a2, vI q1.1, vU, vU]) (st' := [vI 0, vR 137]) (g' := q1.2) k183_7 rfl rfl ?_
  refine q_putI (w := 10) (pc' := 11) k183_8 rfl rfl rfl rfl ?_
  refine q_s (pc' := 12) (ls' := [vR 137, vI a1, vI a2, vI q1.1, vU, vU]) (st' := [vR 137]) (g' := up q1.2 137 10 0) k183_11 rfl rfl ?_
  refine q_s (pc' := 13) (ls' := [vR 137, vI a1, vI a2, vI q1.1, vU, vU]) (st' := [vI a1, vR 137]) (g' := up q1.2 137 10 0) k183_12 rfl rfl ?_
  refine q_callV (ls0 := [vR 137, vI a1, vU]) (rest := []) (pc' := 16) rfl k183_13 rfl (hy4 rfl rfl rfl rfl) rfl rfl hq_182 rfl (fun q2 => ?_)
  rfl
set_option maxHeartbeats 4000000 in
theorem jM_setSteps_16_eq (L : Nat) (l1 : Int) (l2 : Int) (l3 : Int) (w4 : AVal) (g : AMem) : jM_setSteps_16 L l1 l2 l3 w4 g = (jM_openMany L l3 g).bind (fun q3 => if q3.1 ≤ 0 then (jM_setSteps_68 L l1 l2 l3 0 vU q3.2) else ((jM_leastOpen L l1 1 q3.2).bind (fun q5 => if q5.1 ≠ (-201) then ((jM_movesTo L l1 q5.1 q5.2).bind (fun q7 => jM_setSteps_16 L l1 l2 l3 (vI q5.1) q7)) else ((jM_leastOpen L l1 0 q5.2).bind (fun q8 => (jM_breaks L l1 q8.1 l2 q8.2).bind (fun q9 => jM_setSteps_16 L l1 l2 l3 (vI q5.1) q9)))))) := by
  unfold jM_setSteps_16
  refine q_s (pc' := 17) (ls' := [vR 137, vI l1, vI l2, vI l3, w4, vU]) (st' := [vR 137]) (g' := g) k183_16 rfl rfl ?_
  refine q_s (pc' := 18) (ls' := [vR 137, vI l1, vI l2, vI l3, w4, vU]) (st' := [vI l3, vR 137]) (g' := g) k183_17 rfl rfl ?_
  refine q_callI (ls0 := [vR 137, vI l3, vU, vU]) (rest := []) (pc' := 21) rfl k183_18 rfl (hy4 rfl rfl rfl rfl) rfl rfl hq_176 rfl (fun q3 => ?_)
  refine q_if (P := q3.1 ≤ 0) (t := 65) (pc' := 24) k183_21 Iff.rfl rfl rfl (fun h4 => ?_) (fun h4 => ?_)
  · refine q_s (pc' := 66) (ls' := [vR 137, vI l1, vI l2, vI l3, w4, vU]) (st' := [vI 0]) (g' := q3.2) k183_65 rfl rfl ?_
    refine q_s (pc' := 68) (ls' := [vR 137, vI l1, vI l2, vI l3, vI 0, vU]) (st' := []) (g' := q3.2) k183_66 rfl rfl ?_
    rfl
  · refine q_s (pc' := 25) (ls' := [vR 137, vI l1, vI l2, vI l3, w4, vU]) (st' := [vR 137]) (g' := q3.2) k183_24 rfl rfl ?_
    refine q_s (pc' := 26) (ls' := [vR 137, vI l1, vI l2, vI l3, w4, vU]) (st' := [vI l1, vR 137]) (g' := q3.2) k183_25 rfl rfl ?_
    refine q_s (pc' := 27) (ls' := [vR 137, vI l1, vI l2, vI l3, w4, vU]) (st' := [vI 1, vI l1, vR 137]) (g' := q3.2) k183_26 rfl rfl ?_
    refine q_callI (ls0 := [vR 137, vI l1, vI 1, vU, vU, vU, vU]) (rest := []) (pc' := 30) rfl k183_27 rfl (hy4 rfl rfl rfl rfl) rfl rfl hq_177 rfl (fun q5 => ?_)
    refine q_s (pc' := 32) (ls' := [vR 137, vI l1, vI l2, vI l3, vI q5.1, vU]) (st' := []) (g' := q5.2) k183_30 rfl rfl ?_
    refine q_s (pc' := 34) (ls' := [vR 137, vI l1, vI l2, vI l3, vI q5.1, vU]) (st' := [vI q5.1]) (g' := q5.2) k183_32 rfl rfl ?_
    refine q_s (pc' := 37) (ls' := [vR 137, vI l1, vI l2, vI l3, vI q5.1, vU]) (st' := [vI (-201), vI q5.1]) (g' := q5.2) k183_34 rfl rfl ?_
    refine q_ic (P := q5.1 ≠ (-201)) (t := 55) (pc' := 40) k183_37 Iff.rfl rfl rfl (fun h6 => ?_) (fun h6 => ?_)
    · refine q_s (pc' := 56) (ls' := [vR 137, vI l1, vI l2, vI l3, vI q5.1, vU]) (st' := [vR 137]) (g' := q5.2) k183_55 rfl rfl ?_
      refine q_s (pc' := 57) (ls' := [vR 137, vI l1, vI l2, vI l3, vI q5.1, vU]) (st' := [vI l1, vR 137]) (g' := q5.2) k183_56 rfl rfl ?_
      refine q_s (pc' := 59) (ls' := [vR 137, vI l1, vI l2, vI l3, vI q5.1, vU]) (st' := [vI q5.1, vI l1, vR 137]) (g' := q5.2) k183_57 rfl rfl ?_
      refine q_callV (ls0 := [vR 137, vI l1, vI q5.1, vU, vU]) (rest := []) (pc' := 62) rfl k183_59 rfl (hy4 rfl rfl rfl rfl) rfl rfl hq_180 rfl (fun q7 => ?_)
      refine q_s (pc' := 16) (ls' := [vR 137, vI l1, vI l2, vI l3, vI q5.1, vU]) (st' := []) (g' := q7) k183_62 rfl rfl ?_
      rfl
    · refine q_s (pc' := 41) (ls' := [vR 137, vI l1, vI l2, vI l3, vI q5.1, vU]) (st' := [vR 137]) (g' := q5.2) k183_40 rfl rfl ?_
      refine q_s (pc' := 42) (ls' := [vR 137, vI l1, vI l2, vI l3, vI q5.1, vU]) (st' := [vI l1, vR 137]) (g' := q5.2) k183_41 rfl rfl ?_
      refine q_s (pc' := 43) (ls' := [vR 137, vI l1, vI l2, vI l3, vI q5.1, vU]) (st' := [vR 137, vI l1, vR 137]) (g' := q5.2) k183_42 rfl rfl ?_
      refine q_s (pc' := 44) (ls' := [vR 137, vI l1, vI l2, vI l3, vI q5.1, vU]) (st' := [vI l1, vR 137, vI l1, vR 137]) (g' := q5.2) k183_43 rfl rfl ?_
      refine q_s (pc' := 45) (ls' := [vR 137, vI l1, vI l2, vI l3, vI q5.1, vU]) (st' := [vI 0, vI l1, vR 137, vI l1, vR 137]) (g' := q5.2) k183_44 rfl rfl ?_
      refine q_callI (ls0 := [vR 137, vI l1, vI 0, vU, vU, vU, vU]) (rest := [vI l1, vR 137]) (pc' := 48) rfl k183_45 rfl (hy4 rfl rfl rfl rfl) rfl rfl hq_177 rfl (fun q8 => ?_)
      refine q_s (pc' := 49) (ls' := [vR 137, vI l1, vI l2, vI l3, vI q5.1, vU]) (st' := [vI l2, vI q8.1, vI l1, vR 137]) (g' := q8.2) k183_48 rfl rfl ?_
      refine q_callV (ls0 := [vR 137, vI l1, vI q8.1, vI l2, vU, vU, vU, vU, vU, vU]) (rest := []) (pc' := 52) rfl k183_49 rfl (hy4 rfl rfl rfl rfl) rfl rfl hq_181 rfl (fun q9 => ?_)
      refine q_s (pc' := 62) (ls' := [vR 137, vI l1, vI l2, vI l3, vI q5.1, vU]) (st' := []) (g' := q9) k183_52 rfl rfl ?_
      refine q_s (pc' := 16) (ls' := [vR 137, vI l1, vI l2, vI l3, vI q5.1, vU]) (st' := []) (g' := q9) k183_62 rfl rfl ?_
      rfl
set_option maxHeartbeats 4000000 in
theorem jM_setSteps_68_eq (L : Nat) (l1 : Int) (l2 : Int) (l3 : Int) (l4 : Int) (w5 : AVal) (g : AMem) : jM_setSteps_68 L l1 l2 l3 l4 w5 g = if 32 ≤ l4 then (some g) else (jM_setSteps_78 L l1 l2 l3 l4 0 g) := by
  unfold jM_setSteps_68
  refine q_s (pc' := 70) (ls' := [vR 137, vI l1, vI l2, vI l3, vI l4, w5]) (st' := [vI l4]) (g' := g) k183_68 rfl rfl ?_
  refine q_s (pc' := 72) (ls' := [vR 137, vI l1, vI l2, vI l3, vI l4, w5]) (st' := [vI 32, vI l4]) (g' := g) k183_70 rfl rfl ?_
  refine q_ic (P := 32 ≤ l4) (t := 140) (pc' := 75) k183_72 Iff.rfl rfl rfl (fun h10 => ?_) (fun h10 => ?_)
  · exact q_e k183_140 rfl rfl rfl
  · refine q_s (pc' := 76) (ls' := [vR 137, vI l1, vI l2, vI l3, vI l4, w5]) (st' := [vI 0]) (g' := g) k183_75 rfl rfl ?_
    refine q_s (pc' := 78) (ls' := [vR 137, vI l1, vI l2, vI l3, vI l4, vI 0]) (st' := []) (g' := g) k183_76 rfl rfl ?_
    rfl
set_option maxHeartbeats 4000000 in
theorem jM_setSteps_78_eq (L : Nat) (l1 : Int) (l2 : Int) (l3 : Int) (l4 : Int) (l5 : Int) (g : AMem) : jM_setSteps_78 L l1 l2 l3 l4 l5 g = if l3 ≤ l5 then (jM_setSteps_68 L l1 l2 l3 (iw (l4 + 1)) (vI l5) g) else ((jM_givenOf L l1 l5 g).bind (fun q12 => if 0 ≤ q12.1 then (jM_setSteps_78 L l1 l2 l3 l4 (iw (l5 + 1)) q12.2) else ((jM_parameterOf L l1 l5 q12.2).bind (fun q14 => (jM_byteOf L q14.1 q14.2).bind (fun q15 => if q15.1 ≠ l4 then (jM_setSteps_78 L l1 l2 l3 l4 (iw (l5 + 1)) q15.2) else ((jM_parameterOf L l1 l5 q15.2).bind (fun q17 => (jM_givenOf L l1 l5 q17.2).bind (fun q18 => (jM_comes L 2 q17.1 q18.1 q18.2).bind (fun q19 => jM_setSteps_78 L l1 l2 l3 l4 (iw (l5 + 1)) q19))))))))) := by
  unfold jM_setSteps_78
  refine q_s (pc' := 80) (ls' := [vR 137, vI l1, vI l2, vI l3, vI l4, vI l5]) (st' := [vI l5]) (g' := g) k183_78 rfl rfl ?_
  refine q_s (pc' := 81) (ls' := [vR 137, vI l1, vI l2, vI l3, vI l4, vI l5]) (st' := [vI l3, vI l5]) (g' := g) k183_80 rfl rfl ?_
  refine q_ic (P := l3 ≤ l5) (t := 134) (pc' := 84) k183_81 Iff.rfl rfl rfl (fun h11 => ?_) (fun h11 => ?_)
  · refine q_s (pc' := 137) (ls' := [vR 137, vI l1, vI l2, vI l3, vI (iw (l4 + 1)), vI l5]) (st' := []) (g' := g) k183_134 rfl rfl ?_
    refine q_s (pc' := 68) (ls' := [vR 137, vI l1, vI l2, vI l3, vI (iw (l4 + 1)), vI l5]) (st' := []) (g' := g) k183_137 rfl rfl ?_
    rfl
  · refine q_s (pc' := 85) (ls' := [vR 137, vI l1, vI l2, vI l3, vI l4, vI l5]) (st' := [vR 137]) (g' := g) k183_84 rfl rfl ?_
    refine q_s (pc' := 86) (ls' := [vR 137, vI l1, vI l2, vI l3, vI l4, vI l5]) (st' := [vI l1, vR 137]) (g' := g) k183_85 rfl rfl ?_
    refine q_s (pc' := 88) (ls' := [vR 137, vI l1, vI l2, vI l3, vI l4, vI l5]) (st' := [vI l5, vI l1, vR 137]) (g' := g) k183_86 rfl rfl ?_
    refine q_callI (ls0 := [vR 137, vI l1, vI l5]) (rest := []) (pc' := 91) rfl k183_88 rfl (hy4 rfl rfl rfl rfl) rfl rfl hq_149 rfl (fun q12 => ?_)
    refine q_if (P := 0 ≤ q12.1) (t := 128) (pc' := 94) k183_91 Iff.rfl rfl rfl (fun h13 => ?_) (fun h13 => ?_)
    · refine q_s (pc' := 131) (ls' := [vR 137, vI l1, vI l2, vI l3, vI l4, vI (iw (l5 + 1))]) (st' := []) (g' := q12.2) k183_128 rfl rfl ?_
      refine q_s (pc' := 78) (ls' := [vR 137, vI l1, vI l2, vI l3, vI l4, vI (iw (l5 + 1))]) (st' := []) (g' := q12.2) k183_131 rfl rfl ?_
      rfl
    · refine q_s (pc' := 95) (ls' := [vR 137, vI l1, vI l2, vI l3, vI l4, vI l5]) (st' := [vR 137]) (g' := q12.2) k183_94 rfl rfl ?_
      refine q_s (pc' := 96) (ls' := [vR 137, vI l1, vI l2, vI l3, vI l4, vI l5]) (st' := [vI l1, vR 137]) (g' := q12.2) k183_95 rfl rfl ?_
      refine q_s (pc' := 98) (ls' := [vR 137, vI l1, vI l2, vI l3, vI l4, vI l5]) (st' := [vI l5, vI l1, vR 137]) (g' := q12.2) k183_96 rfl rfl ?_
      refine q_callI (ls0 := [vR 137, vI l1, vI l5]) (rest := []) (pc' := 101) rfl k183_98 rfl (hy4 rfl rfl rfl rfl) rfl rfl hq_147 rfl (fun q14 => ?_)
      refine q_callI (ls0 := [vI q14.1]) (rest := []) (pc' := 104) rfl k183_101 rfl (hy4 rfl rfl rfl rfl) rfl rfl hq_140 rfl (fun q15 => ?_)
      refine q_s (pc' := 106) (ls' := [vR 137, vI l1, vI l2, vI l3, vI l4, vI l5]) (st' := [vI l4, vI q15.1]) (g' := q15.2) k183_104 rfl rfl ?_
      refine q_ic (P := q15.1 ≠ l4) (t := 128) (pc' := 109) k183_106 Iff.rfl rfl rfl (fun h16 => ?_) (fun h16 => ?_)
      · refine q_s (pc' := 131) (ls' := [vR 137, vI l1, vI l2, vI l3, vI l4, vI (iw (l5 + 1))]) (st' := []) (g' := q15.2) k183_128 rfl rfl ?_
        refine q_s (pc' := 78) (ls' := [vR 137, vI l1, vI l2, vI l3, vI l4, vI (iw (l5 + 1))]) (st' := []) (g' := q15.2) k183_131 rfl rfl ?_
        rfl
      · refine q_s (pc' := 110) (ls' := [vR 137, vI l1, vI l2, vI l3, vI l4, vI l5]) (st' := [vR 137]) (g' := q15.2) k183_109 rfl rfl ?_
        refine q_s (pc' := 111) (ls' := [vR 137, vI l1, vI l2, vI l3, vI l4, vI l5]) (st' := [vI 2, vR 137]) (g' := q15.2) k183_110 rfl rfl ?_
        refine q_s (pc' := 112) (ls' := [vR 137, vI l1, vI l2, vI l3, vI l4, vI l5]) (st' := [vR 137, vI 2, vR 137]) (g' := q15.2) k183_111 rfl rfl ?_
        refine q_s (pc' := 113) (ls' := [vR 137, vI l1, vI l2, vI l3, vI l4, vI l5]) (st' := [vI l1, vR 137, vI 2, vR 137]) (g' := q15.2) k183_112 rfl rfl ?_
        refine q_s (pc' := 115) (ls' := [vR 137, vI l1, vI l2, vI l3, vI l4, vI l5]) (st' := [vI l5, vI l1, vR 137, vI 2, vR 137]) (g' := q15.2) k183_113 rfl rfl ?_
        refine q_callI (ls0 := [vR 137, vI l1, vI l5]) (rest := [vI 2, vR 137]) (pc' := 118) rfl k183_115 rfl (hy4 rfl rfl rfl rfl) rfl rfl hq_147 rfl (fun q17 => ?_)
        refine q_s (pc' := 119) (ls' := [vR 137, vI l1, vI l2, vI l3, vI l4, vI l5]) (st' := [vR 137, vI q17.1, vI 2, vR 137]) (g' := q17.2) k183_118 rfl rfl ?_
        refine q_s (pc' := 120) (ls' := [vR 137, vI l1, vI l2, vI l3, vI l4, vI l5]) (st' := [vI l1, vR 137, vI q17.1, vI 2, vR 137]) (g' := q17.2) k183_119 rfl rfl ?_
        refine q_s (pc' := 122) (ls' := [vR 137, vI l1, vI l2, vI l3, vI l4, vI l5]) (st' := [vI l5, vI l1, vR 137, vI q17.1, vI 2, vR 137]) (g' := q17.2) k183_120 rfl rfl ?_
        refine q_callI (ls0 := [vR 137, vI l1, vI l5]) (rest := [vI q17.1, vI 2, vR 137]) (pc' := 125) rfl k183_122 rfl (hy4 rfl rfl rfl rfl) rfl rfl hq_149 rfl (fun q18 => ?_)
        refine q_callV (ls0 := [vR 137, vI 2, vI q17.1, vI q18.1]) (rest := []) (pc' := 128) rfl k183_125 rfl (hy4 rfl rfl rfl rfl) rfl rfl hq_174 rfl (fun q19 => ?_)
        refine q_s (pc' := 131) (ls' := [vR 137, vI l1, vI l2, vI l3, vI l4, vI (iw (l5 + 1))]) (st' := []) (g' := q19) k183_128 rfl rfl ?_
        refine q_s (pc' := 78) (ls' := [vR 137, vI l1, vI l2, vI l3, vI l4, vI (iw (l5 + 1))]) (st' := []) (g' := q19) k183_131 rfl rfl ?_
        rfl
set_option maxHeartbeats 4000000 in
theorem jM_costBy_eq (L : Nat) (a1 : Int) (a2 : Int) (g : AMem) : jM_costBy L a1 a2 g = (jM_setSteps L a1 a2 g).bind (fun q1 => jM_costBy_11 L a1 a2 0 0 vU q1) := by
  unfold jM_costBy
  refine q_s (pc' := 1) (ls' := [vR 137, vI a1, vI a2, vU, vU, vU]) (st' := [vR 137]) (g' := g) k184_0 rfl rfl ?_
  refine q_s (pc' := 2) (ls' := [vR 137, vI a1, vI a2, vU, vU, vU]) (st' := [vI a1, vR 137]) (g' := g) k184_1 rfl rfl ?_
  refine q_s (pc' := 3) (ls' := [vR 137, vI a1, vI a2, vU, vU, vU]) (st' := [vI a2, vI a1, vR 137]) (g' := g) k184_2 rfl rfl ?_
  refine q_callV (ls0 := [vR 137, vI a1, vI a2, vU, vU, vU]) (rest := []) (pc' := 6) rfl k184_3 rfl (hy4 rfl rfl rfl rfl) rfl rfl hq_183 rfl (fun q1 => ?_)
  refine q_s (pc' := 7) (ls' := [vR 137, vI a1, vI a2, vU, vU, vU]) (st' := [vI 0]) (g' := q1) k184_6 rfl rfl ?_
  refine q_s (pc' := 8) (ls' := [vR 137, vI a1, vI a2, vI 0, vU, vU]) (st' := []) (g' := q1) k184_7 rfl rfl ?_
  refine q_s (pc' := 9) (ls' := [vR 137, vI a1, vI a2, vI 0, vU, vU]) (st' := [vI 0]) (g' := q1) k184_8 rfl rfl ?_
  refine q_s (pc' := 11) (ls' := [vR 137, vI a1, vI a2, vI 0, vI 0, vU]) (st' := []) (g' := q1) k184_9 rfl rfl ?_
  rfl
set_option maxHeartbeats 4000000 in
theorem jM_costBy_11_eq (L : Nat) (l1 : Int) (l2 : Int) (l3 : Int) (l4 : Int) (w5 : AVal) (g : AMem) : jM_costBy_11 L l1 l2 l3 l4 w5 g = if g 137 10 ≤ l4 then (some (l3, g)) else (if 0 ≤ l4 ∧ l4 < 24 then ((jM_widthOf L (g 146 l4) g).bind (fun q4 => if 0 ≤ l4 ∧ l4 < 24 then (if q4.2 145 l4 ≠ 1 then ((jM_moveCost L l2 q4.1 q4.2).bind (fun q7 => jM_costBy_11 L l1 l2 (iw (l3 + q7.1)) (iw (l4 + 1)) (vI q4.1) q7.2)) else ((jM_changeCost L l2 q4.1 q4.2).bind (fun q8 => jM_costBy_11 L l1 l2 (iw (l3 + q8.1)) (iw (l4 + 1)) (vI q4.1) q8.2))) else none)) else none) := by
  unfold jM_costBy_11
  refine q_s (pc' := 13) (ls' := [vR 137, vI l1, vI l2, vI l3, vI l4, w5]) (st' := [vI l4]) (g' := g) k184_11 rfl rfl ?_
  refine q_s (pc' := 14) (ls' := [vR 137, vI l1, vI l2, vI l3, vI l4, w5]) (st' := [vR 137, vI l4]) (g' := g) k184_13 rfl rfl ?_
  refine q_getI (w := 10) (pc' := 17) k184_14 rfl rfl rfl rfl ?_
  refine q_ic (P := g 137 10 ≤ l4) (t := 67) (pc' := 20) k184_17 Iff.rfl rfl rfl (fun h2 => ?_) (fun h2 => ?_)
  · refine q_s (pc' := 68) (ls' := [vR 137, vI l1, vI l2, vI l3, vI l4, w5]) (st' := [vI l3]) (g' := g) k184_67 rfl rfl ?_
    exact q_e k184_68 rfl rfl rfl
  · refine q_s (pc' := 21) (ls' := [vR 137, vI l1, vI l2, vI l3, vI l4, w5]) (st' := [vR 137]) (g' := g) k184_20 rfl rfl ?_
    refine q_getF (r := 146) (pc' := 24) k184_21 rfl rfl rfl rfl ?_
    refine q_s (pc' := 26) (ls' := [vR 137, vI l1, vI l2, vI l3, vI l4, w5]) (st' := [vI l4, vR 146]) (g' := g) k184_24 rfl rfl ?_
    refine q_iald (n := 24) (pc' := 27) rfl k184_26 rfl rfl (fun h3 => ?_)
    refine q_callI (ls0 := [vI (g 146 l4)]) (rest := []) (pc' := 30) rfl k184_27 rfl (hy4 rfl rfl rfl rfl) rfl rfl hq_139 rfl (fun q4 => ?_)
    refine q_s (pc' := 32) (ls' := [vR 137, vI l1, vI l2, vI l3, vI l4, vI q4.1]) (st' := []) (g' := q4.2) k184_30 rfl rfl ?_
    refine q_s (pc' := 33) (ls' := [vR 137, vI l1, vI l2, vI l3, vI l4, vI q4.1]) (st' := [vI l3]) (g' := q4.2) k184_32 rfl rfl ?_
    refine q_s (pc' := 34) (ls' := [vR 137, vI l1, vI l2, vI l3, vI l4, vI q4.1]) (st' := [vR 137, vI l3]) (g' := q4.2) k184_33 rfl rfl ?_
    refine q_getF (r := 145) (pc' := 37) k184_34 rfl rfl rfl rfl ?_
    refine q_s (pc' := 39) (ls' := [vR 137, vI l1, vI l2, vI l3, vI l4, vI q4.1]) (st' := [vI l4, vR 145, vI l3]) (g' := q4.2) k184_37 rfl rfl ?_
    refine q_iald (n := 24) (pc' := 40) rfl k184_39 rfl rfl (fun h5 => ?_)
    refine q_s (pc' := 41) (ls' := [vR 137, vI l1, vI l2, vI l3, vI l4, vI q4.1]) (st' := [vI 1, vI (q4.2 145 l4), vI l3]) (g' := q4.2) k184_40 rfl rfl ?_
    refine q_ic (P := q4.2 145 l4 ≠ 1) (t := 53) (pc' := 44) k184_41 Iff.rfl rfl rfl (fun h6 => ?_) (fun h6 => ?_)
    · refine q_s (pc' := 54) (ls' := [vR 137, vI l1, vI l2, vI l3, vI l4, vI q4.1]) (st' := [vI l2, vI l3]) (g' := q4.2) k184_53 rfl rfl ?_
      refine q_s (pc' := 56) (ls' := [vR 137, vI l1, vI l2, vI l3, vI l4, vI q4.1]) (st' := [vI q4.1, vI l2, vI l3]) (g' := q4.2) k184_54 rfl rfl ?_
      refine q_callI (ls0 := [vI l2, vI q4.1]) (rest := [vI l3]) (pc' := 59) rfl k184_56 rfl (hy4 rfl rfl rfl rfl) rfl rfl hq_172 rfl (fun q7 => ?_)
      refine q_s (pc' := 60) (ls' := [vR 137, vI l1, vI l2, vI l3, vI l4, vI q4.1]) (st' := [vI (iw (l3 + q7.1))]) (g' := q7.2) k184_59 rfl rfl ?_
      refine q_s (pc' := 61) (ls' := [vR 137, vI l1, vI l2, vI (iw (l3 + q7.1)), vI l4, vI q4.1]) (st' := []) (g' := q7.2) k184_60 rfl rfl ?_
      refine q_s (pc' := 64) (ls' := [vR 137, vI l1, vI l2, vI (iw (l3 + q7.1)), vI (iw (l4 + 1)), vI q4.1]) (st' := []) (g' := q7.2) k184_61 rfl rfl ?_
      refine q_s (pc' := 11) (ls' := [vR 137, vI l1, vI l2, vI (iw (l3 + q7.1)), vI (iw (l4 + 1)), vI q4.1]) (st' := []) (g' := q7.2) k184_64 rfl rfl ?_
      rfl
    · refine q_s (pc' := 45) (ls' := [vR 137, vI l1, vI l2, vI l3, vI l4, vI q4.1]) (st' := [vI l2, vI l3]) (g' := q4.2) k184_44 rfl rfl ?_
      refine q_s (pc' := 47) (ls' := [vR 137, vI l1, vI l2, vI l3, vI l4, vI q4.1]) (st' := [vI q4.1, vI l2, vI l3]) (g' := q4.2) k184_45 rfl rfl ?_
      refine q_callI (ls0 := [vI l2, vI q4.1]) (rest := [vI l3]) (pc' := 50) rfl k184_47 rfl (hy4 rfl rfl rfl rfl) rfl rfl hq_173 rfl (fun q8 => ?_)
      refine q_s (pc' := 59) (ls' := [vR 137, vI l1, vI l2, vI l3, vI l4, vI q4.1]) (st' := [vI q8.1, vI l3]) (g' := q8.2) k184_50 rfl rfl ?_
      refine q_s (pc' := 60) (ls' := [vR 137, vI l1, vI l2, vI l3, vI l4, vI q4.1]) (st' := [vI (iw (l3 + q8.1))]) (g' := q8.2) k184_59 rfl rfl ?_
      refine q_s (pc' := 61) (ls' := [vR 137, vI l1, vI l2, vI (iw (l3 + q8.1)), vI l4, vI q4.1]) (st' := []) (g' := q8.2) k184_60 rfl rfl ?_
      refine q_s (pc' := 64) (ls' := [vR 137, vI l1, vI l2, vI (iw (l3 + q8.1)), vI (iw (l4 + 1)), vI q4.1]) (st' := []) (g' := q8.2) k184_61 rfl rfl ?_
      refine q_s (pc' := 11) (ls' := [vR 137, vI l1, vI l2, vI (iw (l3 + q8.1)), vI (iw (l4 + 1)), vI q4.1]) (st' := []) (g' := q8.2) k184_64 rfl rfl ?_
      rfl
set_option maxHeartbeats 4000000 in
theorem jM_counted_eq (L : Nat) (a1 : Int) (g : AMem) : jM_counted L a1 g = jM_counted_4 L a1 0 0 vU g := by
  unfold jM_counted
  refine q_s (pc' := 1) (ls' := [vR 137, vI a1, vU, vU, vU]) (st' := [vI 0]) (g' := g) k185_0 rfl rfl ?_
  refine q_s (pc' := 2) (ls' := [vR 137, vI a1, vI 0, vU, vU]) (st' := []) (g' := g) k185_1 rfl rfl ?_
  refine q_s (pc' := 3) (ls' := [vR 137, vI a1, vI 0, vU, vU]) (st' := [vI 0]) (g' := g) k185_2 rfl rfl ?_
  refine q_s (pc' := 4) (ls' := [vR 137, vI a1, vI 0, vI 0, vU]) (st' := []) (g' := g) k185_3 rfl rfl ?_
  rfl
set_option maxHeartbeats 4000000 in
theorem jM_counted_4_eq (L : Nat) (l1 : Int) (l2 : Int) (l3 : Int) (w4 : AVal) (g : AMem) : jM_counted_4 L l1 l2 l3 w4 g = if g 137 10 ≤ l3 then (some (l2, g)) else (if l1 = 0 then (jM_counted_4 L l1 (iw (l2 + 1)) (iw (l3 + 1)) (vI 1) g) else (if l1 ≠ 4 then (if 4 ≤ l1 then (jM_counted_4 L l1 (iw (l2 + 0)) (iw (l3 + 1)) (vI 0) g) else (if 0 ≤ l3 ∧ l3 < 24 then (if iw (l1 - 1) ≠ g 145 l3 then (jM_counted_4 L l1 (iw (l2 + 0)) (iw (l3 + 1)) (vI 0) g) else (jM_counted_4 L l1 (iw (l2 + 1)) (iw (l3 + 1)) (vI 1) g)) else none)) else (if 0 ≤ l3 ∧ l3 < 24 then (if 320 ≤ g 146 l3 then (jM_counted_4 L l1 (iw (l2 + 1)) (iw (l3 + 1)) (vI 1) g) else (if 4 ≤ l1 then (jM_counted_4 L l1 (iw (l2 + 0)) (iw (l3 + 1)) (vI 0) g) else (if 0 ≤ l3 ∧ l3 < 24 then (if iw (l1 - 1) ≠ g 145 l3 then (jM_counted_4 L l1 (iw (l2 + 0)) (iw (l3 + 1)) (vI 0) g) else (jM_counted_4 L l1 (iw (l2 + 1)) (iw (l3 + 1)) (vI 1) g)) else none))) else none))) := by
  unfold jM_counted_4
  refine q_s (pc' := 5) (ls' := [vR 137, vI l1, vI l2, vI l3, w4]) (st' := [vI l3]) (g' := g) k185_4 rfl rfl ?_
  refine q_s (pc' := 6) (ls' := [vR 137, vI l1, vI l2, vI l3, w4]) (st' := [vR 137, vI l3]) (g' := g) k185_5 rfl rfl ?_
  refine q_getI (w := 10) (pc' := 9) k185_6 rfl rfl rfl rfl ?_
  refine q_ic (P := g 137 10 ≤ l3) (t := 76) (pc' := 12) k185_9 Iff.rfl rfl rfl (fun h1 => ?_) (fun h1 => ?_)
  · refine q_s (pc' := 77) (ls' := [vR 137, vI l1, vI l2, vI l3, w4]) (st' := [vI l2]) (g' := g) k185_76 rfl rfl ?_
    exact q_e k185_77 rfl rfl rfl
  · refine q_s (pc' := 13) (ls' := [vR 137, vI l1, vI l2, vI l3, w4]) (st' := [vI l1]) (g' := g) k185_12 rfl rfl ?_
    refine q_if (P := l1 = 0) (t := 50) (pc' := 16) k185_13 Iff.rfl rfl rfl (fun h2 => ?_) (fun h2 => ?_)
    · refine q_s (pc' := 51) (ls' := [vR 137, vI l1, vI l2, vI l3, w4]) (st' := [vI 1]) (g' := g) k185_50 rfl rfl ?_
      refine q_s (pc' := 55) (ls' := [vR 137, vI l1, vI l2, vI l3, w4]) (st' := [vI 1]) (g' := g) k185_51 rfl rfl ?_
      refine q_s (pc' := 57) (ls' := [vR 137, vI l1, vI l2, vI l3, vI 1]) (st' := []) (g' := g) k185_55 rfl rfl ?_
      refine q_s (pc' := 58) (ls' := [vR 137, vI l1, vI l2, vI l3, vI 1]) (st' := [vI l2]) (g' := g) k185_57 rfl rfl ?_
      refine q_s (pc' := 60) (ls' := [vR 137, vI l1, vI l2, vI l3, vI 1]) (st' := [vI 1, vI l2]) (g' := g) k185_58 rfl rfl ?_
      refine q_s (pc' := 63) (ls' := [vR 137, vI l1, vI l2, vI l3, vI 1]) (st' := [vI l2]) (g' := g) k185_60 rfl rfl ?_
      refine q_s (pc' := 64) (ls' := [vR 137, vI l1, vI l2, vI l3, vI 1]) (st' := [vI 1, vI l2]) (g' := g) k185_63 rfl rfl ?_
      refine q_s (pc' := 68) (ls' := [vR 137, vI l1, vI l2, vI l3, vI 1]) (st' := [vI 1, vI l2]) (g' := g) k185_64 rfl rfl ?_
      refine q_s (pc' := 69) (ls' := [vR 137, vI l1, vI l2, vI l3, vI 1]) (st' := [vI (iw (l2 + 1))]) (g' := g) k185_68 rfl rfl ?_
      refine q_s (pc' := 70) (ls' := [vR 137, vI l1, vI (iw (l2 + 1)), vI l3, vI 1]) (st' := []) (g' := g) k185_69 rfl rfl ?_
      refine q_s (pc' := 73) (ls' := [vR 137, vI l1, vI (iw (l2 + 1)), vI (iw (l3 + 1)), vI 1]) (st' := []) (g' := g) k185_70 rfl rfl ?_
      refine q_s (pc' := 4) (ls' := [vR 137, vI l1, vI (iw (l2 + 1)), vI (iw (l3 + 1)), vI 1]) (st' := []) (g' := g) k185_73 rfl rfl ?_
      rfl
    · refine q_s (pc' := 17) (ls' := [vR 137, vI l1, vI l2, vI l3, w4]) (st' := [vI l1]) (g' := g) k185_16 rfl rfl ?_
      refine q_s (pc' := 18) (ls' := [vR 137, vI l1, vI l2, vI l3, w4]) (st' := [vI 4, vI l1]) (g' := g) k185_17 rfl rfl ?_
      refine q_ic (P := l1 ≠ 4) (t := 33) (pc' := 21) k185_18 Iff.rfl rfl rfl (fun h3 => ?_) (fun h3 => ?_)
      · refine q_s (pc' := 34) (ls' := [vR 137, vI l1, vI l2, vI l3, w4]) (st' := [vI l1]) (g' := g) k185_33 rfl rfl ?_
        refine q_s (pc' := 35) (ls' := [vR 137, vI l1, vI l2, vI l3, w4]) (st' := [vI 4, vI l1]) (g' := g) k185_34 rfl rfl ?_
        refine q_ic (P := 4 ≤ l1) (t := 54) (pc' := 38) k185_35 Iff.rfl rfl rfl (fun h4 => ?_) (fun h4 => ?_)
        · refine q_s (pc' := 55) (ls' := [vR 137, vI l1, vI l2, vI l3, w4]) (st' := [vI 0]) (g' := g) k185_54 rfl rfl ?_
          refine q_s (pc' := 57) (ls' := [vR 137, vI l1, vI l2, vI l3, vI 0]) (st' := []) (g' := g) k185_55 rfl rfl ?_
          refine q_s (pc' := 58) (ls' := [vR 137, vI l1, vI l2, vI l3, vI 0]) (st' := [vI l2]) (g' := g) k185_57 rfl rfl ?_
          refine q_s (pc' := 60) (ls' := [vR 137, vI l1, vI l2, vI l3, vI 0]) (st' := [vI 0, vI l2]) (g' := g) k185_58 rfl rfl ?_
          refine q_s (pc' := 67) (ls' := [vR 137, vI l1, vI l2, vI l3, vI 0]) (st' := [vI l2]) (g' := g) k185_60 rfl rfl ?_
          refine q_s (pc' := 68) (ls' := [vR 137, vI l1, vI l2, vI l3, vI 0]) (st' := [vI 0, vI l2]) (g' := g) k185_67 rfl rfl ?_
          refine q_s (pc' := 69) (ls' := [vR 137, vI l1, vI l2, vI l3, vI 0]) (st' := [vI (iw (l2 + 0))]) (g' := g) k185_68 rfl rfl ?_
          refine q_s (pc' := 70) (ls' := [vR 137, vI l1, vI (iw (l2 + 0)), vI l3, vI 0]) (st' := []) (g' := g) k185_69 rfl rfl ?_
          refine q_s (pc' := 73) (ls' := [vR 137, vI l1, vI (iw (l2 + 0)), vI (iw (l3 + 1)), vI 0]) (st' := []) (g' := g) k185_70 rfl rfl ?_
          refine q_s (pc' := 4) (ls' := [vR 137, vI l1, vI (iw (l2 + 0)), vI (iw (l3 + 1)), vI 0]) (st' := []) (g' := g) k185_73 rfl rfl ?_
          rfl
        · refine q_s (pc' := 39) (ls' := [vR 137, vI l1, vI l2, vI l3, w4]) (st' := [vI l1]) (g' := g) k185_38 rfl rfl ?_
          refine q_s (pc' := 40) (ls' := [vR 137, vI l1, vI l2, vI l3, w4]) (st' := [vI 1, vI l1]) (g' := g) k185_39 rfl rfl ?_
          refine q_s (pc' := 41) (ls' := [vR 137, vI l1, vI l2, vI l3, w4]) (st' := [vI (iw (l1 - 1))]) (g' := g) k185_40 rfl rfl ?_
          refine q_s (pc' := 42) (ls' := [vR 137, vI l1, vI l2, vI l3, w4]) (st' := [vR 137, vI (iw (l1 - 1))]) (g' := g) k185_41 rfl rfl ?_
          refine q_getF (r := 145) (pc' := 45) k185_42 rfl rfl rfl rfl ?_
          refine q_s (pc' := 46) (ls' := [vR 137, vI l1, vI l2, vI l3, w4]) (st' := [vI l3, vR 145, vI (iw (l1 - 1))]) (g' := g) k185_45 rfl rfl ?_
          refine q_iald (n := 24) (pc' := 47) rfl k185_46 rfl rfl (fun h5 => ?_)
          refine q_ic (P := iw (l1 - 1) ≠ g 145 l3) (t := 54) (pc' := 50) k185_47 Iff.rfl rfl rfl (fun h6 => ?_) (fun h6 => ?_)
          · refine q_s (pc' := 55) (ls' := [vR 137, vI l1, vI l2, vI l3, w4]) (st' := [vI 0]) (g' := g) k185_54 rfl rfl ?_
            refine q_s (pc' := 57) (ls' := [vR 137, vI l1, vI l2, vI l3, vI 0]) (st' := []) (g' := g) k185_55 rfl rfl ?_
            refine q_s (pc' := 58) (ls' := [vR 137, vI l1, vI l2, vI l3, vI 0]) (st' := [vI l2]) (g' := g) k185_57 rfl rfl ?_
            refine q_s (pc' := 60) (ls' := [vR 137, vI l1, vI l2, vI l3, vI 0]) (st' := [vI 0, vI l2]) (g' := g) k185_58 rfl rfl ?_
            refine q_s (pc' := 67) (ls' := [vR 137, vI l1, vI l2, vI l3, vI 0]) (st' := [vI l2]) (g' := g) k185_60 rfl rfl ?_
            refine q_s (pc' := 68) (ls' := [vR 137, vI l1, vI l2, vI l3, vI 0]) (st' := [vI 0, vI l2]) (g' := g) k185_67 rfl rfl ?_
            refine q_s (pc' := 69) (ls' := [vR 137, vI l1, vI l2, vI l3, vI 0]) (st' := [vI (iw (l2 + 0))]) (g' := g) k185_68 rfl rfl ?_
            refine q_s (pc' := 70) (ls' := [vR 137, vI l1, vI (iw (l2 + 0)), vI l3, vI 0]) (st' := []) (g' := g) k185_69 rfl rfl ?_
            refine q_s (pc' := 73) (ls' := [vR 137, vI l1, vI (iw (l2 + 0)), vI (iw (l3 + 1)), vI 0]) (st' := []) (g' := g) k185_70 rfl rfl ?_
            refine q_s (pc' := 4) (ls' := [vR 137, vI l1, vI (iw (l2 + 0)), vI (iw (l3 + 1)), vI 0]) (st' := []) (g' := g) k185_73 rfl rfl ?_
            rfl
          · refine q_s (pc' := 51) (ls' := [vR 137, vI l1, vI l2, vI l3, w4]) (st' := [vI 1]) (g' := g) k185_50 rfl rfl ?_
            refine q_s (pc' := 55) (ls' := [vR 137, vI l1, vI l2, vI l3, w4]) (st' := [vI 1]) (g' := g) k185_51 rfl rfl ?_
            refine q_s (pc' := 57) (ls' := [vR 137, vI l1, vI l2, vI l3, vI 1]) (st' := []) (g' := g) k185_55 rfl rfl ?_
            refine q_s (pc' := 58) (ls' := [vR 137, vI l1, vI l2, vI l3, vI 1]) (st' := [vI l2]) (g' := g) k185_57 rfl rfl ?_
            refine q_s (pc' := 60) (ls' := [vR 137, vI l1, vI l2, vI l3, vI 1]) (st' := [vI 1, vI l2]) (g' := g) k185_58 rfl rfl ?_
            refine q_s (pc' := 63) (ls' := [vR 137, vI l1, vI l2, vI l3, vI 1]) (st' := [vI l2]) (g' := g) k185_60 rfl rfl ?_
            refine q_s (pc' := 64) (ls' := [vR 137, vI l1, vI l2, vI l3, vI 1]) (st' := [vI 1, vI l2]) (g' := g) k185_63 rfl rfl ?_
            refine q_s (pc' := 68) (ls' := [vR 137, vI l1, vI l2, vI l3, vI 1]) (st' := [vI 1, vI l2]) (g' := g) k185_64 rfl rfl ?_
            refine q_s (pc' := 69) (ls' := [vR 137, vI l1, vI l2, vI l3, vI 1]) (st' := [vI (iw (l2 + 1))]) (g' := g) k185_68 rfl rfl ?_
            refine q_s (pc' := 70) (ls' := [vR 137, vI l1, vI (iw (l2 + 1)), vI l3, vI 1]) (st' := []) (g' := g) k185_69 rfl rfl ?_
            refine q_s (pc' := 73) (ls' := [vR 137, vI l1, vI (iw (l2 + 1)), vI (iw (l3 + 1)), vI 1]) (st' := []) (g' := g) k185_70 rfl rfl ?_
            refine q_s (pc' := 4) (ls' := [vR 137, vI l1, vI (iw (l2 + 1)), vI (iw (l3 + 1)), vI 1]) (st' := []) (g' := g) k185_73 rfl rfl ?_
            rfl
      · refine q_s (pc' := 22) (ls' := [vR 137, vI l1, vI l2, vI l3, w4]) (st' := [vR 137]) (g' := g) k185_21 rfl rfl ?_
        refine q_getF (r := 146) (pc' := 25) k185_22 rfl rfl rfl rfl ?_
        refine q_s (pc' := 26) (ls' := [vR 137, vI l1, vI l2, vI l3, w4]) (st' := [vI l3, vR 146]) (g' := g) k185_25 rfl rfl ?_
        refine q_iald (n := 24) (pc' := 27) rfl k185_26 rfl rfl (fun h7 => ?_)
        refine q_s (pc' := 30) (ls' := [vR 137, vI l1, vI l2, vI l3, w4]) (st' := [vI 320, vI (g 146 l3)]) (g' := g) k185_27 rfl rfl ?_
        refine q_ic (P := 320 ≤ g 146 l3) (t := 50) (pc' := 33) k185_30 Iff.rfl rfl rfl (fun h8 => ?_) (fun h8 => ?_)
        · refine q_s (pc' := 51) (ls' := [vR 137, vI l1, vI l2, vI l3, w4]) (st' := [vI 1]) (g' := g) k185_50 rfl rfl ?_
          refine q_s (pc' := 55) (ls' := [vR 137, vI l1, vI l2, vI l3, w4]) (st' := [vI 1]) (g' := g) k185_51 rfl rfl ?_
          refine q_s (pc' := 57) (ls' := [vR 137, vI l1, vI l2, vI l3, vI 1]) (st' := []) (g' := g) k185_55 rfl rfl ?_
          refine q_s (pc' := 58) (ls' := [vR 137, vI l1, vI l2, vI l3, vI 1]) (st' := [vI l2]) (g' := g) k185_57 rfl rfl ?_
          refine q_s (pc' := 60) (ls' := [vR 137, vI l1, vI l2, vI l3, vI 1]) (st' := [vI 1, vI l2]) (g' := g) k185_58 rfl rfl ?_
          refine q_s (pc' := 63) (ls' := [vR 137, vI l1, vI l2, vI l3, vI 1]) (st' := [vI l2]) (g' := g) k185_60 rfl rfl ?_
          refine q_s (pc' := 64) (ls' := [vR 137, vI l1, vI l2, vI l3, vI 1]) (st' := [vI 1, vI l2]) (g' := g) k185_63 rfl rfl ?_
          refine q_s (pc' := 68) (ls' := [vR 137, vI l1, vI l2, vI l3, vI 1]) (st' := [vI 1, vI l2]) (g' := g) k185_64 rfl rfl ?_
          refine q_s (pc' := 69) (ls' := [vR 137, vI l1, vI l2, vI l3, vI 1]) (st' := [vI (iw (l2 + 1))]) (g' := g) k185_68 rfl rfl ?_
          refine q_s (pc' := 70) (ls' := [vR 137, vI l1, vI (iw (l2 + 1)), vI l3, vI 1]) (st' := []) (g' := g) k185_69 rfl rfl ?_
          refine q_s (pc' := 73) (ls' := [vR 137, vI l1, vI (iw (l2 + 1)), vI (iw (l3 + 1)), vI 1]) (st' := []) (g' := g) k185_70 rfl rfl ?_
          refine q_s (pc' := 4) (ls' := [vR 137, vI l1, vI (iw (l2 + 1)), vI (iw (l3 + 1)), vI 1]) (st' := []) (g' := g) k185_73 rfl rfl ?_
          rfl
        · refine q_s (pc' := 34) (ls' := [vR 137, vI l1, vI l2, vI l3, w4]) (st' := [vI l1]) (g' := g) k185_33 rfl rfl ?_
          refine q_s (pc' := 35) (ls' := [vR 137, vI l1, vI l2, vI l3, w4]) (st' := [vI 4, vI l1]) (g' := g) k185_34 rfl rfl ?_
          refine q_ic (P := 4 ≤ l1) (t := 54) (pc' := 38) k185_35 Iff.rfl rfl rfl (fun h9 => ?_) (fun h9 => ?_)
          · refine q_s (pc' := 55) (ls' := [vR 137, vI l1, vI l2, vI l3, w4]) (st' := [vI 0]) (g' := g) k185_54 rfl rfl ?_
            refine q_s (pc' := 57) (ls' := [vR 137, vI l1, vI l2, vI l3, vI 0]) (st' := []) (g' := g) k185_55 rfl rfl ?_
            refine q_s (pc' := 58) (ls' := [vR 137, vI l1, vI l2, vI l3, vI 0]) (st' := [vI l2]) (g' := g) k185_57 rfl rfl ?_
            refine q_s (pc' := 60) (ls' := [vR 137, vI l1, vI l2, vI l3, vI 0]) (st' := [vI 0, vI l2]) (g' := g) k185_58 rfl rfl ?_
            refine q_s (pc' := 67) (ls' := [vR 137, vI l1, vI l2, vI l3, vI 0]) (st' := [vI l2]) (g' := g) k185_60 rfl rfl ?_
            refine q_s (pc' := 68) (ls' := [vR 137, vI l1, vI l2, vI l3, vI 0]) (st' := [vI 0, vI l2]) (g' := g) k185_67 rfl rfl ?_
            refine q_s (pc' := 69) (ls' := [vR 137, vI l1, vI l2, vI l3, vI 0]) (st' := [vI (iw (l2 + 0))]) (g' := g) k185_68 rfl rfl ?_
            refine q_s (pc' := 70) (ls' := [vR 137, vI l1, vI (iw (l2 + 0)), vI l3, vI 0]) (st' := []) (g' := g) k185_69 rfl rfl ?_
            refine q_s (pc' := 73) (ls' := [vR 137, vI l1, vI (iw (l2 + 0)), vI (iw (l3 + 1)), vI 0]) (st' := []) (g' := g) k185_70 rfl rfl ?_
            refine q_s (pc' := 4) (ls' := [vR 137, vI l1, vI (iw (l2 + 0)), vI (iw (l3 + 1)), vI 0]) (st' := []) (g' := g) k185_73 rfl rfl ?_
            rfl
          · refine q_s (pc' := 39) (ls' := [vR 137, vI l1, vI l2, vI l3, w4]) (st' := [vI l1]) (g' := g) k185_38 rfl rfl ?_
            refine q_s (pc' := 40) (ls' := [vR 137, vI l1, vI l2, vI l3, w4]) (st' := [vI 1, vI l1]) (g' := g) k185_39 rfl rfl ?_
            refine q_s (pc' := 41) (ls' := [vR 137, vI l1, vI l2, vI l3, w4]) (st' := [vI (iw (l1 - 1))]) (g' := g) k185_40 rfl rfl ?_
            refine q_s (pc' := 42) (ls' := [vR 137, vI l1, vI l2, vI l3, w4]) (st' := [vR 137, vI (iw (l1 - 1))]) (g' := g) k185_41 rfl rfl ?_
            refine q_getF (r := 145) (pc' := 45) k185_42 rfl rfl rfl rfl ?_
            refine q_s (pc' := 46) (ls' := [vR 137, vI l1, vI l2, vI l3, w4]) (st' := [vI l3, vR 145, vI (iw (l1 - 1))]) (g' := g) k185_45 rfl rfl ?_
            refine q_iald (n := 24) (pc' := 47) rfl k185_46 rfl rfl (fun h10 => ?_)
            refine q_ic (P := iw (l1 - 1) ≠ g 145 l3) (t := 54) (pc' := 50) k185_47 Iff.rfl rfl rfl (fun h11 => ?_) (fun h11 => ?_)
            · refine q_s (pc' := 55) (ls' := [vR 137, vI l1, vI l2, vI l3, w4]) (st' := [vI 0]) (g' := g) k185_54 rfl rfl ?_
              refine q_s (pc' := 57) (ls' := [vR 137, vI l1, vI l2, vI l3, vI 0]) (st' := []) (g' := g) k185_55 rfl rfl ?_
              refine q_s (pc' := 58) (ls' := [vR 137, vI l1, vI l2, vI l3, vI 0]) (st' := [vI l2]) (g' := g) k185_57 rfl rfl ?_
              refine q_s (pc' := 60) (ls' := [vR 137, vI l1, vI l2, vI l3, vI 0]) (st' := [vI 0, vI l2]) (g' := g) k185_58 rfl rfl ?_
              refine q_s (pc' := 67) (ls' := [vR 137, vI l1, vI l2, vI l3, vI 0]) (st' := [vI l2]) (g' := g) k185_60 rfl rfl ?_
              refine q_s (pc' := 68) (ls' := [vR 137, vI l1, vI l2, vI l3, vI 0]) (st' := [vI 0, vI l2]) (g' := g) k185_67 rfl rfl ?_
              refine q_s (pc' := 69) (ls' := [vR 137, vI l1, vI l2, vI l3, vI 0]) (st' := [vI (iw (l2 + 0))]) (g' := g) k185_68 rfl rfl ?_
              refine q_s (pc' := 70) (ls' := [vR 137, vI l1, vI (iw (l2 + 0)), vI l3, vI 0]) (st' := []) (g' := g) k185_69 rfl rfl ?_
              refine q_s (pc' := 73) (ls' := [vR 137, vI l1, vI (iw (l2 + 0)), vI (iw (l3 + 1)), vI 0]) (st' := []) (g' := g) k185_70 rfl rfl ?_
              refine q_s (pc' := 4) (ls' := [vR 137, vI l1, vI (iw (l2 + 0)), vI (iw (l3 + 1)), vI 0]) (st' := []) (g' := g) k185_73 rfl rfl ?_
              rfl
            · refine q_s (pc' := 51) (ls' := [vR 137, vI l1, vI l2, vI l3, w4]) (st' := [vI 1]) (g' := g) k185_50 rfl rfl ?_
              refine q_s (pc' := 55) (ls' := [vR 137, vI l1, vI l2, vI l3, w4]) (st' := [vI 1]) (g' := g) k185_51 rfl rfl ?_
              refine q_s (pc' := 57) (ls' := [vR 137, vI l1, vI l2, vI l3, vI 1]) (st' := []) (g' := g) k185_55 rfl rfl ?_
              refine q_s (pc' := 58) (ls' := [vR 137, vI l1, vI l2, vI l3, vI 1]) (st' := [vI l2]) (g' := g) k185_57 rfl rfl ?_
              refine q_s (pc' := 60) (ls' := [vR 137, vI l1, vI l2, vI l3, vI 1]) (st' := [vI 1, vI l2]) (g' := g) k185_58 rfl rfl ?_
              refine q_s (pc' := 63) (ls' := [vR 137, vI l1, vI l2, vI l3, vI 1]) (st' := [vI l2]) (g' := g) k185_60 rfl rfl ?_
              refine q_s (pc' := 64) (ls' := [vR 137, vI l1, vI l2, vI l3, vI 1]) (st' := [vI 1, vI l2]) (g' := g) k185_63 rfl rfl ?_
              refine q_s (pc' := 68) (ls' := [vR 137, vI l1, vI l2, vI l3, vI 1]) (st' := [vI 1, vI l2]) (g' := g) k185_64 rfl rfl ?_
              refine q_s (pc' := 69) (ls' := [vR 137, vI l1, vI l2, vI l3, vI 1]) (st' := [vI (iw (l2 + 1))]) (g' := g) k185_68 rfl rfl ?_
              refine q_s (pc' := 70) (ls' := [vR 137, vI l1, vI (iw (l2 + 1)), vI l3, vI 1]) (st' := []) (g' := g) k185_69 rfl rfl ?_
              refine q_s (pc' := 73) (ls' := [vR 137, vI l1, vI (iw (l2 + 1)), vI (iw (l3 + 1)), vI 1]) (st' := []) (g' := g) k185_70 rfl rfl ?_
              refine q_s (pc' := 4) (ls' := [vR 137, vI l1, vI (iw (l2 + 1)), vI (iw (l3 + 1)), vI 1]) (st' := []) (g' := g) k185_73 rfl rfl ?_
              rfl
set_option maxHeartbeats 4000000 in
theorem jM_steps_eq (L : Nat) (a1 : Int) (a2 : Int) (g : AMem) : jM_steps L a1 a2 g = (jM_isEdge L a1 g).bind (fun q1 => if q1.1 = 0 then ((jM_bad L q1.2).bind (fun q3 => some (q3.1, q3.2))) else ((jM_in L a2 0 4 q1.2).bind (fun q4 => if q4.1 ≠ 0 then ((jM_isClear L a1 q4.2).bind (fun q6 => if q6.1 ≠ 0 then ((jM_setSteps L a1 (q6.2 137 3) q6.2).bind (fun q8 => (jM_counted L a2 q8).bind (fun q9 => some (q9.1, q9.2)))) else ((jM_no L q6.2).bind (fun q10 => some (q10.1, q10.2))))) else ((jM_bad L q4.2).bind (fun q11 => some (q11.1, q11.2)))))) := by
  unfold jM_steps
  refine q_s (pc' := 1) (ls' := [vR 137, vI a1, vI a2]) (st' := [vR 137]) (g' := g) k186_0 rfl rfl ?_
  refine q_s (pc' := 2) (ls' := [vR 137, vI a1, vI a2]) (st' := [vI a1, vR 137]) (g' := g) k186_1 rfl rfl ?_
  refine q_callI (ls0 := [vR 137, vI a1]) (rest := []) (pc' := 5) rfl k186_2 rfl (hy4 rfl rfl rfl rfl) rfl rfl hq_146 rfl (fun q1 => ?_)
  refine q_if (P := q1.1 = 0) (t := 17) (pc' := 8) k186_5 Iff.rfl rfl rfl (fun h2 => ?_) (fun h2 => ?_)
  · refine q_s (pc' := 18) (ls' := [vR 137, vI a1, vI a2]) (st' := [vR 137]) (g' := q1.2) k186_17 rfl rfl ?_
    refine q_callI (ls0 := [vR 137]) (rest := []) (pc' := 21) rfl k186_18 rfl (hy4 rfl rfl rfl rfl) rfl rfl hq_135 rfl (fun q3 => ?_)
    exact q_e k186_21 rfl rfl rfl
  · refine q_s (pc' := 9) (ls' := [vR 137, vI a1, vI a2]) (st' := [vI a2]) (g' := q1.2) k186_8 rfl rfl ?_
    refine q_s (pc' := 10) (ls' := [vR 137, vI a1, vI a2]) (st' := [vI 0, vI a2]) (g' := q1.2) k186_9 rfl rfl ?_
    refine q_s (pc' := 11) (ls' := [vR 137, vI a1, vI a2]) (st' := [vI 4, vI 0, vI a2]) (g' := q1.2) k186_10 rfl rfl ?_
    refine q_callI (ls0 := [vI a2, vI 0, vI 4]) (rest := []) (pc' := 14) rfl k186_11 rfl (hy4 rfl rfl rfl rfl) rfl rfl hq_138 rfl (fun q4 => ?_)
    refine q_if (P := q4.1 ≠ 0) (t := 22) (pc' := 17) k186_14 Iff.rfl rfl rfl (fun h5 => ?_) (fun h5 => ?_)
    · refine q_s (pc' := 23) (ls' := [vR 137, vI a1, vI a2]) (st' := [vR 137]) (g' := q4.2) k186_22 rfl rfl ?_
      refine q_s (pc' := 24) (ls' := [vR 137, vI a1, vI a2]) (st' := [vI a1, vR 137]) (g' := q4.2) k186_23 rfl rfl ?_
      refine q_callI (ls0 := [vR 137, vI a1, vU, vU]) (rest := []) (pc' := 27) rfl k186_24 rfl (hy4 rfl rfl rfl rfl) rfl rfl hq_167 rfl (fun q6 => ?_)
      refine q_if (P := q6.1 ≠ 0) (t := 35) (pc' := 30) k186_27 Iff.rfl rfl rfl (fun h7 => ?_) (fun h7 => ?_)
      · refine q_s (pc' := 36) (ls' := [vR 137, vI a1, vI a2]) (st' := [vR 137]) (g' := q6.2) k186_35 rfl rfl ?_
        refine q_s (pc' := 37) (ls' := [vR 137, vI a1, vI a2]) (st' := [vI a1, vR 137]) (g' := q6.2) k186_36 rfl rfl ?_
        refine q_s (pc' := 38) (ls' := [vR 137, vI a1, vI a2]) (st' := [vR 137, vI a1, vR 137]) (g' := q6.2) k186_37 rfl rfl ?_
        refine q_getI (w := 3) (pc' := 41) k186_38 rfl rfl rfl rfl ?_
        refine q_callV (ls0 := [vR 137, vI a1, vI (q6.2 137 3), vU, vU, vU]) (rest := []) (pc' := 44) rfl k186_41 rfl (hy4 rfl rfl rfl rfl) rfl rfl hq_183 rfl (fun q8 => ?_)
        refine q_s (pc' := 45) (ls' := [vR 137, vI a1, vI a2]) (st' := [vR 137]) (g' := q8) k186_44 rfl rfl ?_
        refine q_s (pc' := 46) (ls' := [vR 137, vI a1, vI a2]) (st' := [vI a2, vR 137]) (g' := q8) k186_45 rfl rfl ?_
        refine q_callI (ls0 := [vR 137, vI a2, vU, vU, vU]) (rest := []) (pc' := 49) rfl k186_46 rfl (hy4 rfl rfl rfl rfl) rfl rfl hq_185 rfl (fun q9 => ?_)
        exact q_e k186_49 rfl rfl rfl
      · refine q_s (pc' := 31) (ls' := [vR 137, vI a1, vI a2]) (st' := [vR 137]) (g' := q6.2) k186_30 rfl rfl ?_
        refine q_callI (ls0 := [vR 137]) (rest := []) (pc' := 34) rfl k186_31 rfl (hy4 rfl rfl rfl rfl) rfl rfl hq_136 rfl (fun q10 => ?_)
        exact q_e k186_34 rfl rfl rfl
    · refine q_s (pc' := 18) (ls' := [vR 137, vI a1, vI a2]) (st' := [vR 137]) (g' := q4.2) k186_17 rfl rfl ?_
      refine q_callI (ls0 := [vR 137]) (rest := []) (pc' := 21) rfl k186_18 rfl (hy4 rfl rfl rfl rfl) rfl rfl hq_135 rfl (fun q11 => ?_)
      exact q_e k186_21 rfl rfl rfl
set_option maxHeartbeats 4000000 in
theorem jM_step_eq (L : Nat) (a1 : Int) (a2 : Int) (a3 : Int) (g : AMem) : jM_step L a1 a2 a3 g = (jM_isEdge L a1 g).bind (fun q1 => if q1.1 = 0 then ((jM_bad L q1.2).bind (fun q3 => some (q3.1, q3.2))) else (if a2 < 0 then ((jM_bad L q1.2).bind (fun q5 => some (q5.1, q5.2))) else ((jM_in L a3 0 2 q1.2).bind (fun q6 => if q6.1 ≠ 0 then ((jM_isClear L a1 q6.2).bind (fun q8 => if q8.1 ≠ 0 then ((jM_setSteps L a1 (q8.2 137 3) q8.2).bind (fun q10 => if a2 < q10 137 10 then (if a3 ≠ 0 then (if a3 ≠ 1 then (if 0 ≤ a2 ∧ a2 < 24 then (some (q10 147 a2, q10)) else none) else (if 0 ≤ a2 ∧ a2 < 24 then (some (q10 146 a2, q10)) else none)) else (if 0 ≤ a2 ∧ a2 < 24 then (some (q10 145 a2, q10)) else none)) else (some ((-201), q10)))) else ((jM_no L q8.2).bind (fun q17 => some (q17.1, q17.2))))) else ((jM_bad L q6.2).bind (fun q18 => some (q18.1, q18.2))))))) := by
  unfold jM_step
  refine q_s (pc' := 1) (ls' := [vR 137, vI a1, vI a2, vI a3]) (st' := [vR 137]) (g' := g) k187_0 rfl rfl ?_
  refine q_s (pc' := 2) (ls' := [vR 137, vI a1, vI a2, vI a3]) (st' := [vI a1, vR 137]) (g' := g) k187_1 rfl rfl ?_
  refine q_callI (ls0 := [vR 137, vI a1]) (rest := []) (pc' := 5) rfl k187_2 rfl (hy4 rfl rfl rfl rfl) rfl rfl hq_146 rfl (fun q1 => ?_)
  refine q_if (P := q1.1 = 0) (t := 21) (pc' := 8) k187_5 Iff.rfl rfl rfl (fun h2 => ?_) (fun h2 => ?_)
  · refine q_s (pc' := 22) (ls' := [vR 137, vI a1, vI a2, vI a3]) (st' := [vR 137]) (g' := q1.2) k187_21 rfl rfl ?_
    refine q_callI (ls0 := [vR 137]) (rest := []) (pc' := 25) rfl k187_22 rfl (hy4 rfl rfl rfl rfl) rfl rfl hq_135 rfl (fun q3 => ?_)
    exact q_e k187_25 rfl rfl rfl
  · refine q_s (pc' := 9) (ls' := [vR 137, vI a1, vI a2, vI a3]) (st' := [vI a2]) (g' := q1.2) k187_8 rfl rfl ?_
    refine q_if (P := a2 < 0) (t := 21) (pc' := 12) k187_9 Iff.rfl rfl rfl (fun h4 => ?_) (fun h4 => ?_)
    · refine q_s (pc' := 22) (ls' := [vR 137, vI a1, vI a2, vI a3]) (st' := [vR 137]) (g' := q1.2) k187_21 rfl rfl ?_
      refine q_callI (ls0 := [vR 137]) (rest := []) (pc' := 25) rfl k187_22 rfl (hy4 rfl rfl rfl rfl) rfl rfl hq_135 rfl (fun q5 => ?_)
      exact q_e k187_25 rfl rfl rfl
    · refine q_s (pc' := 13) (ls' := [vR 137, vI a1, vI a2, vI a3]) (st' := [vI a3]) (g' := q1.2) k187_12 rfl rfl ?_
      refine q_s (pc' := 14) (ls' := [vR 137, vI a1, vI a2, vI a3]) (st' := [vI 0, vI a3]) (g' := q1.2) k187_13 rfl rfl ?_
      refine q_s (pc' := 15) (ls' := [vR 137, vI a1, vI a2, vI a3]) (st' := [vI 2, vI 0, vI a3]) (g' := q1.2) k187_14 rfl rfl ?_
      refine q_callI (ls0 := [vI a3, vI 0, vI 2]) (rest := []) (pc' := 18) rfl k187_15 rfl (hy4 rfl rfl rfl rfl) rfl rfl hq_138 rfl (fun q6 => ?_)
      refine q_if (P := q6.1 ≠ 0) (t := 26) (pc' := 21) k187_18 Iff.rfl rfl rfl (fun h7 => ?_) (fun h7 => ?_)
      · refine q_s (pc' := 27) (ls' := [vR 137, vI a1, vI a2, vI a3]) (st' := [vR 137]) (g' := q6.2) k187_26 rfl rfl ?_
        refine q_s (pc' := 28) (ls' := [vR 137, vI a1, vI a2, vI a3]) (st' := [vI a1, vR 137]) (g' := q6.2) k187_27 rfl rfl ?_
        refine q_callI (ls0 := [vR 137, vI a1, vU, vU]) (rest := []) (pc' := 31) rfl k187_28 rfl (hy4 rfl rfl rfl rfl) rfl rfl hq_167 rfl (fun q8 => ?_)
        refine q_if (P := q8.1 ≠ 0) (t := 39) (pc' := 34) k187_31 Iff.rfl rfl rfl (fun h9 => ?_) (fun h9 => ?_)
        · refine q_s (pc' := 40) (ls' := [vR 137, vI a1, vI a2, vI a3]) (st' := [vR 137]) (g' := q8.2) k187_39 rfl rfl ?_
          refine q_s (pc' := 41) (ls' := [vR 137, vI a1, vI a2, vI a3]) (st' := [vI a1, vR 137]) (g' := q8.2) k187_40 rfl rfl ?_
          refine q_s (pc' := 42) (ls' := [vR 137, vI a1, vI a2, vI a3]) (st' := [vR 137, vI a1, vR 137]) (g' := q8.2) k187_41 rfl rfl ?_
          refine q_getI (w := 3) (pc' := 45) k187_42 rfl rfl rfl rfl ?_
          refine q_callV (ls0 := [vR 137, vI a1, vI (q8.2 137 3), vU, vU, vU]) (rest := []) (pc' := 48) rfl k187_45 rfl (hy4 rfl rfl rfl rfl) rfl rfl hq_183 rfl (fun q10 => ?_)
          refine q_s (pc' := 49) (ls' := [vR 137, vI a1, vI a2, vI a3]) (st' := [vI a2]) (g' := q10) k187_48 rfl rfl ?_
          refine q_s (pc' := 50) (ls' := [vR 137, vI a1, vI a2, vI a3]) (st' := [vR 137, vI a2]) (g' := q10) k187_49 rfl rfl ?_
          refine q_getI (w := 10) (pc' := 53) k187_50 rfl rfl rfl rfl ?_
          refine q_ic (P := a2 < q10 137 10) (t := 60) (pc' := 56) k187_53 Iff.rfl rfl rfl (fun h11 => ?_) (fun h11 => ?_)
          · refine q_s (pc' := 61) (ls' := [vR 137, vI a1, vI a2, vI a3]) (st' := [vI a3]) (g' := q10) k187_60 rfl rfl ?_
            refine q_if (P := a3 ≠ 0) (t := 73) (pc' := 64) k187_61 Iff.rfl rfl rfl (fun h12 => ?_) (fun h12 => ?_)
            · refine q_s (pc' := 74) (ls' := [vR 137, vI a1, vI a2, vI a3]) (st' := [vI a3]) (g' := q10) k187_73 rfl rfl ?_
              refine q_s (pc' := 75) (ls' := [vR 137, vI a1, vI a2, vI a3]) (st' := [vI 1, vI a3]) (g' := q10) k187_74 rfl rfl ?_
              refine q_ic (P := a3 ≠ 1) (t := 87) (pc' := 78) k187_75 Iff.rfl rfl rfl (fun h13 => ?_) (fun h13 => ?_)
              · refine q_s (pc' := 88) (ls' := [vR 137, vI a1, vI a2, vI a3]) (st' := [vR 137]) (g' := q10) k187_87 rfl rfl ?_
                refine q_getF (r := 147) (pc' := 91) k187_88 rfl rfl rfl rfl ?_
                refine q_s (pc' := 92) (ls' := [vR 137, vI a1, vI a2, vI a3]) (st' := [vI a2, vR 147]) (g' := q10) k187_91 rfl rfl ?_
                refine q_iald (n := 24) (pc' := 93) rfl k187_92 rfl rfl (fun h14 => ?_)
                exact q_e k187_93 rfl rfl rfl
              · refine q_s (pc' := 79) (ls' := [vR 137, vI a1, vI a2, vI a3]) (st' := [vR 137]) (g' := q10) k187_78 rfl rfl ?_
                refine q_getF (r := 146) (pc' := 82) k187_79 rfl rfl rfl rfl ?_
                refine q_s (pc' := 83) (ls' := [vR 137, vI a1, vI a2, vI a3]) (st' := [vI a2, vR 146]) (g' := q10) k187_82 rfl rfl ?_
                refine q_iald (n := 24) (pc' := 84) rfl k187_83 rfl rfl (fun h15 => ?_)
                refine q_s (pc' := 93) (ls' := [vR 137, vI a1, vI a2, vI a3]) (st' := [vI (q10 146 a2)]) (g' := q10) k187_84 rfl rfl ?_
                exact q_e k187_93 rfl rfl rfl
            · refine q_s (pc' := 65) (ls' := [vR 137, vI a1, vI a2, vI a3]) (st' := [vR 137]) (g' := q10) k187_64 rfl rfl ?_
              refine q_getF (r := 145) (pc' := 68) k187_65 rfl rfl rfl rfl ?_
              refine q_s (pc' := 69) (ls' := [vR 137, vI a1, vI a2, vI a3]) (st' := [vI a2, vR 145]) (g' := q10) k187_68 rfl rfl ?_
              refine q_iald (n := 24) (pc' := 70) rfl k187_69 rfl rfl (fun h16 => ?_)
              refine q_s (pc' := 93) (ls' := [vR 137, vI a1, vI a2, vI a3]) (st' := [vI (q10 145 a2)]) (g' := q10) k187_70 rfl rfl ?_
              exact q_e k187_93 rfl rfl rfl
          · refine q_s (pc' := 59) (ls' := [vR 137, vI a1, vI a2, vI a3]) (st' := [vI (-201)]) (g' := q10) k187_56 rfl rfl ?_
            exact q_e k187_59 rfl rfl rfl
        · refine q_s (pc' := 35) (ls' := [vR 137, vI a1, vI a2, vI a3]) (st' := [vR 137]) (g' := q8.2) k187_34 rfl rfl ?_
          refine q_callI (ls0 := [vR 137]) (rest := []) (pc' := 38) rfl k187_35 rfl (hy4 rfl rfl rfl rfl) rfl rfl hq_136 rfl (fun q17 => ?_)
          exact q_e k187_38 rfl rfl rfl
      · refine q_s (pc' := 22) (ls' := [vR 137, vI a1, vI a2, vI a3]) (st' := [vR 137]) (g' := q6.2) k187_21 rfl rfl ?_
        refine q_callI (ls0 := [vR 137]) (rest := []) (pc' := 25) rfl k187_22 rfl (hy4 rfl rfl rfl rfl) rfl rfl hq_135 rfl (fun q18 => ?_)
        exact q_e k187_25 rfl rfl rfl
set_option maxHeartbeats 4000000 in
theorem jM_cost_eq (L : Nat) (a1 : Int) (g : AMem) : jM_cost L a1 g = (jM_isEdge L a1 g).bind (fun q1 => if q1.1 ≠ 0 then ((jM_isClear L a1 q1.2).bind (fun q3 => if q3.1 = 0 then ((jM_no L q3.2).bind (fun q5 => some (q5.1, q5.2))) else ((jM_costBy L a1 (q3.2 137 3) q3.2).bind (fun q6 => some (q6.1, q6.2))))) else ((jM_bad L q1.2).bind (fun q7 => some (q7.1, q7.2)))) := by
  unfold jM_cost
  refine q_s (pc' := 1) (ls' := [vR 137, vI a1]) (st' := [vR 137]) (g' := g) k188_0 rfl rfl ?_
  refine q_s (pc' := 2) (ls' := [vR 137, vI a1]) (st' := [vI a1, vR 137]) (g' := g) k188_1 rfl rfl ?_
  refine q_callI (ls0 := [vR 137, vI a1]) (rest := []) (pc' := 5) rfl k188_2 rfl (hy4 rfl rfl rfl rfl) rfl rfl hq_146 rfl (fun q1 => ?_)
  refine q_if (P := q1.1 ≠ 0) (t := 13) (pc' := 8) k188_5 Iff.rfl rfl rfl (fun h2 => ?_) (fun h2 => ?_)
  · refine q_s (pc' := 14) (ls' := [vR 137, vI a1]) (st' := [vR 137]) (g' := q1.2) k188_13 rfl rfl ?_
    refine q_s (pc' := 15) (ls' := [vR 137, vI a1]) (st' := [vI a1, vR 137]) (g' := q1.2) k188_14 rfl rfl ?_
    refine q_callI (ls0 := [vR 137, vI a1, vU, vU]) (rest := []) (pc' := 18) rfl k188_15 rfl (hy4 rfl rfl rfl rfl) rfl rfl hq_167 rfl (fun q3 => ?_)
    refine q_if (P := q3.1 = 0) (t := 33) (pc' := 21) k188_18 Iff.rfl rfl rfl (fun h4 => ?_) (fun h4 => ?_)
    · refine q_s (pc' := 34) (ls' := [vR 137, vI a1]) (st' := [vR 137]) (g' := q3.2) k188_33 rfl rfl ?_
      refine q_callI (ls0 := [vR 137]) (rest := []) (pc' := 37) rfl k188_34 rfl (hy4 rfl rfl rfl rfl) rfl rfl hq_136 rfl (fun q5 => ?_)
      exact q_e k188_37 rfl rfl rfl
    · refine q_s (pc' := 22) (ls' := [vR 137, vI a1]) (st' := [vR 137]) (g' := q3.2) k188_21 rfl rfl ?_
      refine q_s (pc' := 23) (ls' := [vR 137, vI a1]) (st' := [vI a1, vR 137]) (g' := q3.2) k188_22 rfl rfl ?_
      refine q_s (pc' := 24) (ls' := [vR 137, vI a1]) (st' := [vR 137, vI a1, vR 137]) (g' := q3.2) k188_23 rfl rfl ?_
      refine q_getI (w := 3) (pc' := 27) k188_24 rfl rfl rfl rfl ?_
      refine q_callI (ls0 := [vR 137, vI a1, vI (q3.2 137 3), vU, vU, vU]) (rest := []) (pc' := 30) rfl k188_27 rfl (hy4 rfl rfl rfl rfl) rfl rfl hq_184 rfl (fun q6 => ?_)
      refine q_s (pc' := 37) (ls' := [vR 137, vI a1]) (st' := [vI q6.1]) (g' := q6.2) k188_30 rfl rfl ?_
      exact q_e k188_37 rfl rfl rfl
  · refine q_s (pc' := 9) (ls' := [vR 137, vI a1]) (st' := [vR 137]) (g' := q1.2) k188_8 rfl rfl ?_
    refine q_callI (ls0 := [vR 137]) (rest := []) (pc' := 12) rfl k188_9 rfl (hy4 rfl rfl rfl rfl) rfl rfl hq_135 rfl (fun q7 => ?_)
    exact q_e k188_12 rfl rfl rfl
set_option maxHeartbeats 4000000 in
theorem jM_wantedTimes_eq (L : Nat) (a1 : Int) (a2 : Int) (g : AMem) : jM_wantedTimes L a1 a2 g = jM_wantedTimes_5 L a1 a2 0 0 g := by
  unfold jM_wantedTimes
  refine q_s (pc' := 1) (ls' := [vR 137, vI a1, vI a2, vU, vU]) (st' := [vI 0]) (g' := g) k189_0 rfl rfl ?_
  refine q_s (pc' := 2) (ls' := [vR 137, vI a1, vI a2, vI 0, vU]) (st' := []) (g' := g) k189_1 rfl rfl ?_
  refine q_s (pc' := 3) (ls' := [vR 137, vI a1, vI a2, vI 0, vU]) (st' := [vI 0]) (g' := g) k189_2 rfl rfl ?_
  refine q_s (pc' := 5) (ls' := [vR 137, vI a1, vI a2, vI 0, vI 0]) (st' := []) (g' := g) k189_3 rfl rfl ?_
  rfl
set_option maxHeartbeats 4000000 in
theorem jM_wantedTimes_5_eq (L : Nat) (l1 : Int) (l2 : Int) (l3 : Int) (l4 : Int) (g : AMem) : jM_wantedTimes_5 L l1 l2 l3 l4 g = (jM_manyOf L l1 g).bind (fun q1 => if q1.1 ≤ l4 then (some (l3, q1.2)) else (if 0 ≤ l4 ∧ l4 < 6 then (if q1.2 148 l4 = 0 then (jM_wantedTimes_5 L l1 l2 (iw (l3 + 0)) (iw (l4 + 1)) q1.2) else (if 0 ≤ l4 ∧ l4 < 6 then (if q1.2 149 l4 ≠ l2 then (jM_wantedTimes_5 L l1 l2 (iw (l3 + 0)) (iw (l4 + 1)) q1.2) else (jM_wantedTimes_5 L l1 l2 (iw (l3 + 1)) (iw (l4 + 1)) q1.2)) else none)) else none)) := by
  unfold jM_wantedTimes_5
  refine q_s (pc' := 7) (ls' := [vR 137, vI l1, vI l2, vI l3, vI l4]) (st' := [vI l4]) (g' := g) k189_5 rfl rfl ?_
  refine q_s (pc' := 8) (ls' := [vR 137, vI l1, vI l2, vI l3, vI l4]) (st' := [vR 137, vI l4]) (g' := g) k189_7 rfl rfl ?_
  refine q_s (pc' := 9) (ls' := [vR 137, vI l1, vI l2, vI l3, vI l4]) (st' := [vI l1, vR 137, vI l4]) (g' := g) k189_8 rfl rfl ?_
  refine q_callI (ls0 := [vR 137, vI l1]) (rest := [vI l4]) (pc' := 12) rfl k189_9 rfl (hy4 rfl rfl rfl rfl) rfl rfl hq_148 rfl (fun q1 => ?_)
  refine q_ic (P := q1.1 ≤ l4) (t := 50) (pc' := 15) k189_12 Iff.rfl rfl rfl (fun h2 => ?_) (fun h2 => ?_)
  · refine q_s (pc' := 51) (ls' := [vR 137, vI l1, vI l2, vI l3, vI l4]) (st' := [vI l3]) (g' := q1.2) k189_50 rfl rfl ?_
    exact q_e k189_51 rfl rfl rfl
  · refine q_s (pc' := 16) (ls' := [vR 137, vI l1, vI l2, vI l3, vI l4]) (st' := [vI l3]) (g' := q1.2) k189_15 rfl rfl ?_
    refine q_s (pc' := 17) (ls' := [vR 137, vI l1, vI l2, vI l3, vI l4]) (st' := [vR 137, vI l3]) (g' := q1.2) k189_16 rfl rfl ?_
    refine q_getF (r := 148) (pc' := 20) k189_17 rfl rfl rfl rfl ?_
    refine q_s (pc' := 22) (ls' := [vR 137, vI l1, vI l2, vI l3, vI l4]) (st' := [vI l4, vR 148, vI l3]) (g' := q1.2) k189_20 rfl rfl ?_
    refine q_bald (n := 6) (pc' := 23) rfl k189_22 rfl rfl (fun h3 => ?_)
    refine q_if (P := q1.2 148 l4 = 0) (t := 41) (pc' := 26) k189_23 Iff.rfl rfl rfl (fun h4 => ?_) (fun h4 => ?_)
    · refine q_s (pc' := 42) (ls' := [vR 137, vI l1, vI l2, vI l3, vI l4]) (st' := [vI 0, vI l3]) (g' := q1.2) k189_41 rfl rfl ?_
      refine q_s (pc' := 43) (ls' := [vR 137, vI l1, vI l2, vI l3, vI l4]) (st' := [vI (iw (l3 + 0))]) (g' := q1.2) k189_42 rfl rfl ?_
      refine q_s (pc' := 44) (ls' := [vR 137, vI l1, vI l2, vI (iw (l3 + 0)), vI l4]) (st' := []) (g' := q1.2) k189_43 rfl rfl ?_
      refine q_s (pc' := 47) (ls' := [vR 137, vI l1, vI l2, vI (iw (l3 + 0)), vI (iw (l4 + 1))]) (st' := []) (g' := q1.2) k189_44 rfl rfl ?_
      refine q_s (pc' := 5) (ls' := [vR 137, vI l1, vI l2, vI (iw (l3 + 0)), vI (iw (l4 + 1))]) (st' := []) (g' := q1.2) k189_47 rfl rfl ?_
      rfl
    · refine q_s (pc' := 27) (ls' := [vR 137, vI l1, vI l2, vI l3, vI l4]) (st' := [vR 137, vI l3]) (g' := q1.2) k189_26 rfl rfl ?_
      refine q_getF (r := 149) (pc' := 30) k189_27 rfl rfl rfl rfl ?_
      refine q_s (pc' := 32) (ls' := [vR 137, vI l1, vI l2, vI l3, vI l4]) (st' := [vI l4, vR 149, vI l3]) (g' := q1.2) k189_30 rfl rfl ?_
      refine q_iald (n := 6) (pc' := 33) rfl k189_32 rfl rfl (fun h5 => ?_)
      refine q_s (pc' := 34) (ls' := [vR 137, vI l1, vI l2, vI l3, vI l4]) (st' := [vI l2, vI (q1.2 149 l4), vI l3]) (g' := q1.2) k189_33 rfl rfl ?_
      refine q_ic (P := q1.2 149 l4 ≠ l2) (t := 41) (pc' := 37) k189_34 Iff.rfl rfl rfl (fun h6 => ?_) (fun h6 => ?_)
      · refine q_s (pc' := 42) (ls' := [vR 137, vI l1, vI l2, vI l3, vI l4]) (st' := [vI 0, vI l3]) (g' := q1.2) k189_41 rfl rfl ?_
        refine q_s (pc' := 43) (ls' := [vR 137, vI l1, vI l2, vI l3, vI l4]) (st' := [vI (iw (l3 + 0))]) (g' := q1.2) k189_42 rfl rfl ?_
        refine q_s (pc' := 44) (ls' := [vR 137, vI l1, vI l2, vI (iw (l3 + 0)), vI l4]) (st' := []) (g' := q1.2) k189_43 rfl rfl ?_
        refine q_s (pc' := 47) (ls' := [vR 137, vI l1, vI l2, vI (iw (l3 + 0)), vI (iw (l4 + 1))]) (st' := []) (g' := q1.2) k189_44 rfl rfl ?_
        refine q_s (pc' := 5) (ls' := [vR 137, vI l1, vI l2, vI (iw (l3 + 0)), vI (iw (l4 + 1))]) (st' := []) (g' := q1.2) k189_47 rfl rfl ?_
        rfl
      · refine q_s (pc' := 38) (ls' := [vR 137, vI l1, vI l2, vI l3, vI l4]) (st' := [vI 1, vI l3]) (g' := q1.2) k189_37 rfl rfl ?_
        refine q_s (pc' := 42) (ls' := [vR 137, vI l1, vI l2, vI l3, vI l4]) (st' := [vI 1, vI l3]) (g' := q1.2) k189_38 rfl rfl ?_
        refine q_s (pc' := 43) (ls' := [vR 137, vI l1, vI l2, vI l3, vI l4]) (st' := [vI (iw (l3 + 1))]) (g' := q1.2) k189_42 rfl rfl ?_
        refine q_s (pc' := 44) (ls' := [vR 137, vI l1, vI l2, vI (iw (l3 + 1)), vI l4]) (st' := []) (g' := q1.2) k189_43 rfl rfl ?_
        refine q_s (pc' := 47) (ls' := [vR 137, vI l1, vI l2, vI (iw (l3 + 1)), vI (iw (l4 + 1))]) (st' := []) (g' := q1.2) k189_44 rfl rfl ?_
        refine q_s (pc' := 5) (ls' := [vR 137, vI l1, vI l2, vI (iw (l3 + 1)), vI (iw (l4 + 1))]) (st' := []) (g' := q1.2) k189_47 rfl rfl ?_
        rfl
set_option maxHeartbeats 4000000 in
theorem jM_ringOf_eq (L : Nat) (a1 : Int) (a2 : Int) (g : AMem) : jM_ringOf L a1 a2 g = jM_ringOf_8 L a1 a2 a2 0 1 vU g := by
  unfold jM_ringOf
  refine q_s (pc' := 1) (ls' := [vR 137, vI a1, vI a2, vU, vU, vU, vU]) (st' := [vI a2]) (g' := g) k190_0 rfl rfl ?_
  refine q_s (pc' := 2) (ls' := [vR 137, vI a1, vI a2, vI a2, vU, vU, vU]) (st' := []) (g' := g) k190_1 rfl rfl ?_
  refine q_s (pc' := 3) (ls' := [vR 137, vI a1, vI a2, vI a2, vU, vU, vU]) (st' := [vI 0]) (g' := g) k190_2 rfl rfl ?_
  refine q_s (pc' := 5) (ls' := [vR 137, vI a1, vI a2, vI a2, vI 0, vU, vU]) (st' := []) (g' := g) k190_3 rfl rfl ?_
  refine q_s (pc' := 6) (ls' := [vR 137, vI a1, vI a2, vI a2, vI 0, vU, vU]) (st' := [vI 1]) (g' := g) k190_5 rfl rfl ?_
  refine q_s (pc' := 8) (ls' := [vR 137, vI a1, vI a2, vI a2, vI 0, vI 1, vU]) (st' := []) (g' := g) k190_6 rfl rfl ?_
  rfl
set_option maxHeartbeats 4000000 in
theorem jM_ringOf_8_eq (L : Nat) (l1 : Int) (l2 : Int) (l3 : Int) (l4 : Int) (l5 : Int) (w6 : AVal) (g : AMem) : jM_ringOf_8 L l1 l2 l3 l4 l5 w6 g = if l5 = 0 then (if l5 = 0 then (some (0, g)) else (if l3 ≠ l2 then (some (0, g)) else (some (l4, g)))) else (if l4 = 0 then (if 6 < l4 then (if l5 = 0 then (some (0, g)) else (if l3 ≠ l2 then (some (0, g)) else (some (l4, g)))) else (if 0 ≤ l3 ∧ l3 < 6 then (if g 148 l3 = 0 then (jM_ringOf_8 L l1 l2 l3 (iw (l4 + 1)) 0 (vI (-201)) g) else ((jM_parameterOf L l1 l3 g).bind (fun q10 => (jM_wantedTimes L l1 q10.1 q10.2).bind (fun q11 => if q11.1 ≠ 1 then (jM_ringOf_8 L l1 l2 l3 (iw (l4 + 1)) 0 (vI (-201)) q11.2) else (if 0 ≤ l3 ∧ l3 < 6 then ((jM_whoHas L l1 (q11.2 149 l3) q11.2).bind (fun q14 => if q14.1 = (-201) then (jM_ringOf_8 L l1 l2 l3 (iw (l4 + 1)) 0 (vI q14.1) q14.2) else (jM_ringOf_8 L l1 l2 q14.1 (iw (l4 + 1)) 1 (vI q14.1) q14.2))) else none))))) else none)) else (if l3 = l2 then (if l5 = 0 then (some (0, g)) else (if l3 ≠ l2 then (some (0, g)) else (some (l4, g)))) else (if 6 < l4 then (if l5 = 0 then (some (0, g)) else (if l3 ≠ l2 then (some (0, g)) else (some (l4, g)))) else (if 0 ≤ l3 ∧ l3 < 6 then (if g 148 l3 = 0 then (jM_ringOf_8 L l1 l2 l3 (iw (l4 + 1)) 0 (vI (-201)) g) else ((jM_parameterOf L l1 l3 g).bind (fun q24 => (jM_wantedTimes L l1 q24.1 q24.2).bind (fun q25 => if q25.1 ≠ 1 then (jM_ringOf_8 L l1 l2 l3 (iw (l4 + 1)) 0 (vI (-201)) q25.2) else (if 0 ≤ l3 ∧ l3 < 6 then ((jM_whoHas L l1 (q25.2 149 l3) q25.2).bind (fun q28 => if q28.1 = (-201) then (jM_ringOf_8 L l1 l2 l3 (iw (l4 + 1)) 0 (vI q28.1) q28.2) else (jM_ringOf_8 L l1 l2 q28.1 (iw (l4 + 1)) 1 (vI q28.1) q28.2))) else none))))) else none)))) := by
  unfold jM_ringOf_8
  refine q_s (pc' := 10) (ls' := [vR 137, vI l1, vI l2, vI l3, vI l4, vI l5, w6]) (st' := [vI l5]) (g' := g) k190_8 rfl rfl ?_
  refine q_if (P := l5 = 0) (t := 118) (pc' := 13) k190_10 Iff.rfl rfl rfl (fun h1 => ?_) (fun h1 => ?_)
  · refine q_s (pc' := 120) (ls' := [vR 137, vI l1, vI l2, vI l3, vI l4, vI l5, w6]) (st' := [vI l5]) (g' := g) k190_118 rfl rfl ?_
    refine q_if (P := l5 = 0) (t := 133) (pc' := 123) k190_120 Iff.rfl rfl rfl (fun h2 => ?_) (fun h2 => ?_)
    · refine q_s (pc' := 134) (ls' := [vR 137, vI l1, vI l2, vI l3, vI l4, vI l5, w6]) (st' := [vI 0]) (g' := g) k190_133 rfl rfl ?_
      exact q_e k190_134 rfl rfl rfl
    · refine q_s (pc' := 124) (ls' := [vR 137, vI l1, vI l2, vI l3, vI l4, vI l5, w6]) (st' := [vI l3]) (g' := g) k190_123 rfl rfl ?_
      refine q_s (pc' := 125) (ls' := [vR 137, vI l1, vI l2, vI l3, vI l4, vI l5, w6]) (st' := [vI l2, vI l3]) (g' := g) k190_124 rfl rfl ?_
      refine q_ic (P := l3 ≠ l2) (t := 133) (pc' := 128) k190_125 Iff.rfl rfl rfl (fun h3 => ?_) (fun h3 => ?_)
      · refine q_s (pc' := 134) (ls' := [vR 137, vI l1, vI l2, vI l3, vI l4, vI l5, w6]) (st' := [vI 0]) (g' := g) k190_133 rfl rfl ?_
        exact q_e k190_134 rfl rfl rfl
      · refine q_s (pc' := 130) (ls' := [vR 137, vI l1, vI l2, vI l3, vI l4, vI l5, w6]) (st' := [vI l4]) (g' := g) k190_128 rfl rfl ?_
        refine q_s (pc' := 134) (ls' := [vR 137, vI l1, vI l2, vI l3, vI l4, vI l5, w6]) (st' := [vI l4]) (g' := g) k190_130 rfl rfl ?_
        exact q_e k190_134 rfl rfl rfl
  · refine q_s (pc' := 15) (ls' := [vR 137, vI l1, vI l2, vI l3, vI l4, vI l5, w6]) (st' := [vI l4]) (g' := g) k190_13 rfl rfl ?_
    refine q_if (P := l4 = 0) (t := 23) (pc' := 18) k190_15 Iff.rfl rfl rfl (fun h4 => ?_) (fun h4 => ?_)
    · refine q_s (pc' := 25) (ls' := [vR 137, vI l1, vI l2, vI l3, vI l4, vI l5, w6]) (st' := [vI l4]) (g' := g) k190_23 rfl rfl ?_
      refine q_s (pc' := 27) (ls' := [vR 137, vI l1, vI l2, vI l3, vI l4, vI l5, w6]) (st' := [vI 6, vI l4]) (g' := g) k190_25 rfl rfl ?_
      refine q_ic (P := 6 < l4) (t := 118) (pc' := 30) k190_27 Iff.rfl rfl rfl (fun h5 => ?_) (fun h5 => ?_)
      · refine q_s (pc' := 120) (ls' := [vR 137, vI l1, vI l2, vI l3, vI l4, vI l5, w6]) (st' := [vI l5]) (g' := g) k190_118 rfl rfl ?_
        refine q_if (P := l5 = 0) (t := 133) (pc' := 123) k190_120 Iff.rfl rfl rfl (fun h6 => ?_) (fun h6 => ?_)
        · refine q_s (pc' := 134) (ls' := [vR 137, vI l1, vI l2, vI l3, vI l4, vI l5, w6]) (st' := [vI 0]) (g' := g) k190_133 rfl rfl ?_
          exact q_e k190_134 rfl rfl rfl
        · refine q_s (pc' := 124) (ls' := [vR 137, vI l1, vI l2, vI l3, vI l4, vI l5, w6]) (st' := [vI l3]) (g' := g) k190_123 rfl rfl ?_
          refine q_s (pc' := 125) (ls' := [vR 137, vI l1, vI l2, vI l3, vI l4, vI l5, w6]) (st' := [vI l2, vI l3]) (g' := g) k190_124 rfl rfl ?_
          refine q_ic (P := l3 ≠ l2) (t := 133) (pc' := 128) k190_125 Iff.rfl rfl rfl (fun h7 => ?_) (fun h7 => ?_)
          · refine q_s (pc' := 134) (ls' := [vR 137, vI l1, vI l2, vI l3, vI l4, vI l5, w6]) (st' := [vI 0]) (g' := g) k190_133 rfl rfl ?_
            exact q_e k190_134 rfl rfl rfl
          · refine q_s (pc' := 130) (ls' := [vR 137, vI l1, vI l2, vI l3, vI l4, vI l5, w6]) (st' := [vI l4]) (g' := g) k190_128 rfl rfl ?_
            refine q_s (pc' := 134) (ls' := [vR 137, vI l1, vI l2, vI l3, vI l4, vI l5, w6]) (st' := [vI l4]) (g' := g) k190_130 rfl rfl ?_
            exact q_e k190_134 rfl rfl rfl
      · refine q_s (pc' := 31) (ls' := [vR 137, vI l1, vI l2, vI l3, vI l4, vI l5, w6]) (st' := [vR 137]) (g' := g) k190_30 rfl rfl ?_
        refine q_getF (r := 148) (pc' := 34) k190_31 rfl rfl rfl rfl ?_
        refine q_s (pc' := 35) (ls' := [vR 137, vI l1, vI l2, vI l3, vI l4, vI l5, w6]) (st' := [vI l3, vR 148]) (g' := g) k190_34 rfl rfl ?_
        refine q_bald (n := 6) (pc' := 36) rfl k190_35 rfl rfl (fun h8 => ?_)
        refine q_if (P := g 148 l3 = 0) (t := 58) (pc' := 39) k190_36 Iff.rfl rfl rfl (fun h9 => ?_) (fun h9 => ?_)
        · refine q_s (pc' := 59) (ls' := [vR 137, vI l1, vI l2, vI l3, vI l4, vI l5, w6]) (st' := [vI 0]) (g' := g) k190_58 rfl rfl ?_
          refine q_s (pc' := 61) (ls' := [vR 137, vI l1, vI l2, vI l3, vI l4, vI 0, w6]) (st' := []) (g' := g) k190_59 rfl rfl ?_
          refine q_s (pc' := 64) (ls' := [vR 137, vI l1, vI l2, vI l3, vI (iw (l4 + 1)), vI 0, w6]) (st' := []) (g' := g) k190_61 rfl rfl ?_
          refine q_s (pc' := 66) (ls' := [vR 137, vI l1, vI l2, vI l3, vI (iw (l4 + 1)), vI 0, w6]) (st' := [vI 0]) (g' := g) k190_64 rfl rfl ?_
          refine q_s (pc' := 83) (ls' := [vR 137, vI l1, vI l2, vI l3, vI (iw (l4 + 1)), vI 0, w6]) (st' := []) (g' := g) k190_66 rfl rfl ?_
          refine q_s (pc' := 86) (ls' := [vR 137, vI l1, vI l2, vI l3, vI (iw (l4 + 1)), vI 0, w6]) (st' := [vI (-201)]) (g' := g) k190_83 rfl rfl ?_
          refine q_s (pc' := 88) (ls' := [vR 137, vI l1, vI l2, vI l3, vI (iw (l4 + 1)), vI 0, vI (-201)]) (st' := []) (g' := g) k190_86 rfl rfl ?_
          refine q_s (pc' := 90) (ls' := [vR 137, vI l1, vI l2, vI l3, vI (iw (l4 + 1)), vI 0, vI (-201)]) (st' := [vI (-201)]) (g' := g) k190_88 rfl rfl ?_
          refine q_s (pc' := 93) (ls' := [vR 137, vI l1, vI l2, vI l3, vI (iw (l4 + 1)), vI 0, vI (-201)]) (st' := [vI (-201), vI (-201)]) (g' := g) k190_90 rfl rfl ?_
          refine q_s (pc' := 100) (ls' := [vR 137, vI l1, vI l2, vI l3, vI (iw (l4 + 1)), vI 0, vI (-201)]) (st' := []) (g' := g) k190_93 rfl rfl ?_
          refine q_s (pc' := 101) (ls' := [vR 137, vI l1, vI l2, vI l3, vI (iw (l4 + 1)), vI 0, vI (-201)]) (st' := [vI 0]) (g' := g) k190_100 rfl rfl ?_
          refine q_s (pc' := 103) (ls' := [vR 137, vI l1, vI l2, vI l3, vI (iw (l4 + 1)), vI 0, vI (-201)]) (st' := []) (g' := g) k190_101 rfl rfl ?_
          refine q_s (pc' := 105) (ls' := [vR 137, vI l1, vI l2, vI l3, vI (iw (l4 + 1)), vI 0, vI (-201)]) (st' := [vI 0]) (g' := g) k190_103 rfl rfl ?_
          refine q_s (pc' := 113) (ls' := [vR 137, vI l1, vI l2, vI l3, vI (iw (l4 + 1)), vI 0, vI (-201)]) (st' := []) (g' := g) k190_105 rfl rfl ?_
          refine q_s (pc' := 114) (ls' := [vR 137, vI l1, vI l2, vI l3, vI (iw (l4 + 1)), vI 0, vI (-201)]) (st' := [vI l3]) (g' := g) k190_113 rfl rfl ?_
          refine q_s (pc' := 115) (ls' := [vR 137, vI l1, vI l2, vI l3, vI (iw (l4 + 1)), vI 0, vI (-201)]) (st' := []) (g' := g) k190_114 rfl rfl ?_
          refine q_s (pc' := 8) (ls' := [vR 137, vI l1, vI l2, vI l3, vI (iw (l4 + 1)), vI 0, vI (-201)]) (st' := []) (g' := g) k190_115 rfl rfl ?_
          rfl
        · refine q_s (pc' := 40) (ls' := [vR 137, vI l1, vI l2, vI l3, vI l4, vI l5, w6]) (st' := [vR 137]) (g' := g) k190_39 rfl rfl ?_
          refine q_s (pc' := 41) (ls' := [vR 137, vI l1, vI l2, vI l3, vI l4, vI l5, w6]) (st' := [vI l1, vR 137]) (g' := g) k190_40 rfl rfl ?_
          refine q_s (pc' := 42) (ls' := [vR 137, vI l1, vI l2, vI l3, vI l4, vI l5, w6]) (st' := [vR 137, vI l1, vR 137]) (g' := g) k190_41 rfl rfl ?_
          refine q_s (pc' := 43) (ls' := [vR 137, vI l1, vI l2, vI l3, vI l4, vI l5, w6]) (st' := [vI l1, vR 137, vI l1, vR 137]) (g' := g) k190_42 rfl rfl ?_
          refine q_s (pc' := 44) (ls' := [vR 137, vI l1, vI l2, vI l3, vI l4, vI l5, w6]) (st' := [vI l3, vI l1, vR 137, vI l1, vR 137]) (g' := g) k190_43 rfl rfl ?_
          refine q_callI (ls0 := [vR 137, vI l1, vI l3]) (rest := [vI l1, vR 137]) (pc' := 47) rfl k190_44 rfl (hy4 rfl rfl rfl rfl) rfl rfl hq_147 rfl (fun q10 => ?_)
          refine q_callI (ls0 := [vR 137, vI l1, vI q10.1, vU, vU]) (rest := []) (pc' := 50) rfl k190_47 rfl (hy4 rfl rfl rfl rfl) rfl rfl hq_189 rfl (fun q11 => ?_)
          refine q_s (pc' := 51) (ls' := [vR 137, vI l1, vI l2, vI l3, vI l4, vI l5, w6]) (st' := [vI 1, vI q11.1]) (g' := q11.2) k190_50 rfl rfl ?_
          refine q_ic (P := q11.1 ≠ 1) (t := 58) (pc' := 54) k190_51 Iff.rfl rfl rfl (fun h12 => ?_) (fun h12 => ?_)
          · refine q_s (pc' := 59) (ls' := [vR 137, vI l1, vI l2, vI l3, vI l4, vI l5, w6]) (st' := [vI 0]) (g' := q11.2) k190_58 rfl rfl ?_
            refine q_s (pc' := 61) (ls' := [vR 137, vI l1, vI l2, vI l3, vI l4, vI 0, w6]) (st' := []) (g' := q11.2) k190_59 rfl rfl ?_
            refine q_s (pc' := 64) (ls' := [vR 137, vI l1, vI l2, vI l3, vI (iw (l4 + 1)), vI 0, w6]) (st' := []) (g' := q11.2) k190_61 rfl rfl ?_
            refine q_s (pc' := 66) (ls' := [vR 137, vI l1, vI l2, vI l3, vI (iw (l4 + 1)), vI 0, w6]) (st' := [vI 0]) (g' := q11.2) k190_64 rfl rfl ?_
            refine q_s (pc' := 83) (ls' := [vR 137, vI l1, vI l2, vI l3, vI (iw (l4 + 1)), vI 0, w6]) (st' := []) (g' := q11.2) k190_66 rfl rfl ?_
            refine q_s (pc' := 86) (ls' := [vR 137, vI l1, vI l2, vI l3, vI (iw (l4 + 1)), vI 0, w6]) (st' := [vI (-201)]) (g' := q11.2) k190_83 rfl rfl ?_
            refine q_s (pc' := 88) (ls' := [vR 137, vI l1, vI l2, vI l3, vI (iw (l4 + 1)), vI 0, vI (-201)]) (st' := []) (g' := q11.2) k190_86 rfl rfl ?_
            refine q_s (pc' := 90) (ls' := [vR 137, vI l1, vI l2, vI l3, vI (iw (l4 + 1)), vI 0, vI (-201)]) (st' := [vI (-201)]) (g' := q11.2) k190_88 rfl rfl ?_
            refine q_s (pc' := 93) (ls' := [vR 137, vI l1, vI l2, vI l3, vI (iw (l4 + 1)), vI 0, vI (-201)]) (st' := [vI (-201), vI (-201)]) (g' := q11.2) k190_90 rfl rfl ?_
            refine q_s (pc' := 100) (ls' := [vR 137, vI l1, vI l2, vI l3, vI (iw (l4 + 1)), vI 0, vI (-201)]) (st' := []) (g' := q11.2) k190_93 rfl rfl ?_
            refine q_s (pc' := 101) (ls' := [vR 137, vI l1, vI l2, vI l3, vI (iw (l4 + 1)), vI 0, vI (-201)]) (st' := [vI 0]) (g' := q11.2) k190_100 rfl rfl ?_
            refine q_s (pc' := 103) (ls' := [vR 137, vI l1, vI l2, vI l3, vI (iw (l4 + 1)), vI 0, vI (-201)]) (st' := []) (g' := q11.2) k190_101 rfl rfl ?_
            refine q_s (pc' := 105) (ls' := [vR 137, vI l1, vI l2, vI l3, vI (iw (l4 + 1)), vI 0, vI (-201)]) (st' := [vI 0]) (g' := q11.2) k190_103 rfl rfl ?_
            refine q_s (pc' := 113) (ls' := [vR 137, vI l1, vI l2, vI l3, vI (iw (l4 + 1)), vI 0, vI (-201)]) (st' := []) (g' := q11.2) k190_105 rfl rfl ?_
            refine q_s (pc' := 114) (ls' := [vR 137, vI l1, vI l2, vI l3, vI (iw (l4 + 1)), vI 0, vI (-201)]) (st' := [vI l3]) (g' := q11.2) k190_113 rfl rfl ?_
            refine q_s (pc' := 115) (ls' := [vR 137, vI l1, vI l2, vI l3, vI (iw (l4 + 1)), vI 0, vI (-201)]) (st' := []) (g' := q11.2) k190_114 rfl rfl ?_
            refine q_s (pc' := 8) (ls' := [vR 137, vI l1, vI l2, vI l3, vI (iw (l4 + 1)), vI 0, vI (-201)]) (st' := []) (g' := q11.2) k190_115 rfl rfl ?_
            rfl
          · refine q_s (pc' := 55) (ls' := [vR 137, vI l1, vI l2, vI l3, vI l4, vI l5, w6]) (st' := [vI 1]) (g' := q11.2) k190_54 rfl rfl ?_
            refine q_s (pc' := 59) (ls' := [vR 137, vI l1, vI l2, vI l3, vI l4, vI l5, w6]) (st' := [vI 1]) (g' := q11.2) k190_55 rfl rfl ?_
            refine q_s (pc' := 61) (ls' := [vR 137, vI l1, vI l2, vI l3, vI l4, vI 1, w6]) (st' := []) (g' := q11.2) k190_59 rfl rfl ?_
            refine q_s (pc' := 64) (ls' := [vR 137, vI l1, vI l2, vI l3, vI (iw (l4 + 1)), vI 1, w6]) (st' := []) (g' := q11.2) k190_61 rfl rfl ?_
            refine q_s (pc' := 66) (ls' := [vR 137, vI l1, vI l2, vI l3, vI (iw (l4 + 1)), vI 1, w6]) (st' := [vI 1]) (g' := q11.2) k190_64 rfl rfl ?_
            refine q_s (pc' := 69) (ls' := [vR 137, vI l1, vI l2, vI l3, vI (iw (l4 + 1)), vI 1, w6]) (st' := []) (g' := q11.2) k190_66 rfl rfl ?_
            refine q_s (pc' := 70) (ls' := [vR 137, vI l1, vI l2, vI l3, vI (iw (l4 + 1)), vI 1, w6]) (st' := [vR 137]) (g' := q11.2) k190_69 rfl rfl ?_
            refine q_s (pc' := 71) (ls' := [vR 137, vI l1, vI l2, vI l3, vI (iw (l4 + 1)), vI 1, w6]) (st' := [vI l1, vR 137]) (g' := q11.2) k190_70 rfl rfl ?_
            refine q_s (pc' := 72) (ls' := [vR 137, vI l1, vI l2, vI l3, vI (iw (l4 + 1)), vI 1, w6]) (st' := [vR 137, vI l1, vR 137]) (g' := q11.2) k190_71 rfl rfl ?_
            refine q_getF (r := 149) (pc' := 75) k190_72 rfl rfl rfl rfl ?_
            refine q_s (pc' := 76) (ls' := [vR 137, vI l1, vI l2, vI l3, vI (iw (l4 + 1)), vI 1, w6]) (st' := [vI l3, vR 149, vI l1, vR 137]) (g' := q11.2) k190_75 rfl rfl ?_
            refine q_iald (n := 6) (pc' := 77) rfl k190_76 rfl rfl (fun h13 => ?_)
            refine q_callI (ls0 := [vR 137, vI l1, vI (q11.2 149 l3), vU, vU]) (rest := []) (pc' := 80) rfl k190_77 rfl (hy4 rfl rfl rfl rfl) rfl rfl hq_178 rfl (fun q14 => ?_)
            refine q_s (pc' := 86) (ls' := [vR 137, vI l1, vI l2, vI l3, vI (iw (l4 + 1)), vI 1, w6]) (st' := [vI q14.1]) (g' := q14.2) k190_80 rfl rfl ?_
            refine q_s (pc' := 88) (ls' := [vR 137, vI l1, vI l2, vI l3, vI (iw (l4 + 1)), vI 1, vI q14.1]) (st' := []) (g' := q14.2) k190_86 rfl rfl ?_
            refine q_s (pc' := 90) (ls' := [vR 137, vI l1, vI l2, vI l3, vI (iw (l4 + 1)), vI 1, vI q14.1]) (st' := [vI q14.1]) (g' := q14.2) k190_88 rfl rfl ?_
            refine q_s (pc' := 93) (ls' := [vR 137, vI l1, vI l2, vI l3, vI (iw (l4 + 1)), vI 1, vI q14.1]) (st' := [vI (-201), vI q14.1]) (g' := q14.2) k190_90 rfl rfl ?_
            refine q_ic (P := q14.1 = (-201)) (t := 100) (pc' := 96) k190_93 Iff.rfl rfl rfl (fun h15 => ?_) (fun h15 => ?_)
            · refine q_s (pc' := 101) (ls' := [vR 137, vI l1, vI l2, vI l3, vI (iw (l4 + 1)), vI 1, vI q14.1]) (st' := [vI 0]) (g' := q14.2) k190_100 rfl rfl ?_
              refine q_s (pc' := 103) (ls' := [vR 137, vI l1, vI l2, vI l3, vI (iw (l4 + 1)), vI 0, vI q14.1]) (st' := []) (g' := q14.2) k190_101 rfl rfl ?_
              refine q_s (pc' := 105) (ls' := [vR 137, vI l1, vI l2, vI l3, vI (iw (l4 + 1)), vI 0, vI q14.1]) (st' := [vI 0]) (g' := q14.2) k190_103 rfl rfl ?_
              refine q_s (pc' := 113) (ls' := [vR 137, vI l1, vI l2, vI l3, vI (iw (l4 + 1)), vI 0, vI q14.1]) (st' := []) (g' := q14.2) k190_105 rfl rfl ?_
              refine q_s (pc' := 114) (ls' := [vR 137, vI l1, vI l2, vI l3, vI (iw (l4 + 1)), vI 0, vI q14.1]) (st' := [vI l3]) (g' := q14.2) k190_113 rfl rfl ?_
              refine q_s (pc' := 115) (ls' := [vR 137, vI l1, vI l2, vI l3, vI (iw (l4 + 1)), vI 0, vI q14.1]) (st' := []) (g' := q14.2) k190_114 rfl rfl ?_
              refine q_s (pc' := 8) (ls' := [vR 137, vI l1, vI l2, vI l3, vI (iw (l4 + 1)), vI 0, vI q14.1]) (st' := []) (g' := q14.2) k190_115 rfl rfl ?_
              rfl
            · refine q_s (pc' := 97) (ls' := [vR 137, vI l1, vI l2, vI l3, vI (iw (l4 + 1)), vI 1, vI q14.1]) (st' := [vI 1]) (g' := q14.2) k190_96 rfl rfl ?_
              refine q_s (pc' := 101) (ls' := [vR 137, vI l1, vI l2, vI l3, vI (iw (l4 + 1)), vI 1, vI q14.1]) (st' := [vI 1]) (g' := q14.2) k190_97 rfl rfl ?_
              refine q_s (pc' := 103) (ls' := [vR 137, vI l1, vI l2, vI l3, vI (iw (l4 + 1)), vI 1, vI q14.1]) (st' := []) (g' := q14.2) k190_101 rfl rfl ?_
              refine q_s (pc' := 105) (ls' := [vR 137, vI l1, vI l2, vI l3, vI (iw (l4 + 1)), vI 1, vI q14.1]) (st' := [vI 1]) (g' := q14.2) k190_103 rfl rfl ?_
              refine q_s (pc' := 108) (ls' := [vR 137, vI l1, vI l2, vI l3, vI (iw (l4 + 1)), vI 1, vI q14.1]) (st' := []) (g' := q14.2) k190_105 rfl rfl ?_
              refine q_s (pc' := 110) (ls' := [vR 137, vI l1, vI l2, vI l3, vI (iw (l4 + 1)), vI 1, vI q14.1]) (st' := [vI q14.1]) (g' := q14.2) k190_108 rfl rfl ?_
              refine q_s (pc' := 114) (ls' := [vR 137, vI l1, vI l2, vI l3, vI (iw (l4 + 1)), vI 1, vI q14.1]) (st' := [vI q14.1]) (g' := q14.2) k190_110 rfl rfl ?_
              refine q_s (pc' := 115) (ls' := [vR 137, vI l1, vI l2, vI q14.1, vI (iw (l4 + 1)), vI 1, vI q14.1]) (st' := []) (g' := q14.2) k190_114 rfl rfl ?_
              refine q_s (pc' := 8) (ls' := [vR 137, vI l1, vI l2, vI q14.1, vI (iw (l4 + 1)), vI 1, vI q14.1]) (st' := []) (g' := q14.2) k190_115 rfl rfl ?_
              rfl
    · refine q_s (pc' := 19) (ls' := [vR 137, vI l1, vI l2, vI l3, vI l4, vI l5, w6]) (st' := [vI l3]) (g' := g) k190_18 rfl rfl ?_
      refine q_s (pc' := 20) (ls' := [vR 137, vI l1, vI l2, vI l3, vI l4, vI l5, w6]) (st' := [vI l2, vI l3]) (g' := g) k190_19 rfl rfl ?_
      refine q_ic (P := l3 = l2) (t := 118) (pc' := 23) k190_20 Iff.rfl rfl rfl (fun h16 => ?_) (fun h16 => ?_)
      · refine q_s (pc' := 120) (ls' := [vR 137, vI l1, vI l2, vI l3, vI l4, vI l5, w6]) (st' := [vI l5]) (g' := g) k190_118 rfl rfl ?_
        refine q_if (P := l5 = 0) (t := 133) (pc' := 123) k190_120 Iff.rfl rfl rfl (fun h17 => ?_) (fun h17 => ?_)
        · refine q_s (pc' := 134) (ls' := [vR 137, vI l1, vI l2, vI l3, vI l4, vI l5, w6]) (st' := [vI 0]) (g' := g) k190_133 rfl rfl ?_
          exact q_e k190_134 rfl rfl rfl
        · refine q_s (pc' := 124) (ls' := [vR 137, vI l1, vI l2, vI l3, vI l4, vI l5, w6]) (st' := [vI l3]) (g' := g) k190_123 rfl rfl ?_
          refine q_s (pc' := 125) (ls' := [vR 137, vI l1, vI l2, vI l3, vI l4, vI l5, w6]) (st' := [vI l2, vI l3]) (g' := g) k190_124 rfl rfl ?_
          refine q_ic (P := l3 ≠ l2) (t := 133) (pc' := 128) k190_125 Iff.rfl rfl rfl (fun h18 => ?_) (fun h18 => ?_)
          · refine q_s (pc' := 134) (ls' := [vR 137, vI l1, vI l2, vI l3, vI l4, vI l5, w6]) (st' := [vI 0]) (g' := g) k190_133 rfl rfl ?_
            exact q_e k190_134 rfl rfl rfl
          · refine q_s (pc' := 130) (ls' := [vR 137, vI l1, vI l2, vI l3, vI l4, vI l5, w6]) (st' := [vI l4]) (g' := g) k190_128 rfl rfl ?_
            refine q_s (pc' := 134) (ls' := [vR 137, vI l1, vI l2, vI l3, vI l4, vI l5, w6]) (st' := [vI l4]) (g' := g) k190_130 rfl rfl ?_
            exact q_e k190_134 rfl rfl rfl
      · refine q_s (pc' := 25) (ls' := [vR 137, vI l1, vI l2, vI l3, vI l4, vI l5, w6]) (st' := [vI l4]) (g' := g) k190_23 rfl rfl ?_
        refine q_s (pc' := 27) (ls' := [vR 137, vI l1, vI l2, vI l3, vI l4, vI l5, w6]) (st' := [vI 6, vI l4]) (g' := g) k190_25 rfl rfl ?_
        refine q_ic (P := 6 < l4) (t := 118) (pc' := 30) k190_27 Iff.rfl rfl rfl (fun h19 => ?_) (fun h19 => ?_)
        · refine q_s (pc' := 120) (ls' := [vR 137, vI l1, vI l2, vI l3, vI l4, vI l5, w6]) (st' := [vI l5]) (g' := g) k190_118 rfl rfl ?_
          refine q_if (P := l5 = 0) (t := 133) (pc' := 123) k190_120 Iff.rfl rfl rfl (fun h20 => ?_) (fun h20 => ?_)
          · refine q_s (pc' := 134) (ls' := [vR 137, vI l1, vI l2, vI l3, vI l4, vI l5, w6]) (st' := [vI 0]) (g' := g) k190_133 rfl rfl ?_
            exact q_e k190_134 rfl rfl rfl
          · refine q_s (pc' := 124) (ls' := [vR 137, vI l1, vI l2, vI l3, vI l4, vI l5, w6]) (st' := [vI l3]) (g' := g) k190_123 rfl rfl ?_
            refine q_s (pc' := 125) (ls' := [vR 137, vI l1, vI l2, vI l3, vI l4, vI l5, w6]) (st' := [vI l2, vI l3]) (g' := g) k190_124 rfl rfl ?_
            refine q_ic (P := l3 ≠ l2) (t := 133) (pc' := 128) k190_125 Iff.rfl rfl rfl (fun h21 => ?_) (fun h21 => ?_)
            · refine q_s (pc' := 134) (ls' := [vR 137, vI l1, vI l2, vI l3, vI l4, vI l5, w6]) (st' := [vI 0]) (g' := g) k190_133 rfl rfl ?_
              exact q_e k190_134 rfl rfl rfl
            · refine q_s (pc' := 130) (ls' := [vR 137, vI l1, vI l2, vI l3, vI l4, vI l5, w6]) (st' := [vI l4]) (g' := g) k190_128 rfl rfl ?_
              refine q_s (pc' := 134) (ls' := [vR 137, vI l1, vI l2, vI l3, vI l4, vI l5, w6]) (st' := [vI l4]) (g' := g) k190_130 rfl rfl ?_
              exact q_e k190_134 rfl rfl rfl
        · refine q_s (pc' := 31) (ls' := [vR 137, vI l1, vI l2, vI l3, vI l4, vI l5, w6]) (st' := [vR 137]) (g' := g) k190_30 rfl rfl ?_
          refine q_getF (r := 148) (pc' := 34) k190_31 rfl rfl rfl rfl ?_
          refine q_s (pc' := 35) (ls' := [vR 137, vI l1, vI l2, vI l3, vI l4, vI l5, w6]) (st' := [vI l3, vR 148]) (g' := g) k190_34 rfl rfl ?_
          refine q_bald (n := 6) (pc' := 36) rfl k190_35 rfl rfl (fun h22 => ?_)
          refine q_if (P := g 148 l3 = 0) (t := 58) (pc' := 39) k190_36 Iff.rfl rfl rfl (fun h23 => ?_) (fun h23 => ?_)
          · refine q_s (pc' := 59) (ls' := [vR 137, vI l1, vI l2, vI l3, vI l4, vI l5, w6]) (st' := [vI 0]) (g' := g) k190_58 rfl rfl ?_
            refine q_s (pc' := 61) (ls' := [vR 137, vI l1, vI l2, vI l3, vI l4, vI 0, w6]) (st' := []) (g' := g) k190_59 rfl rfl ?_
            refine q_s (pc' := 64) (ls' := [vR 137, vI l1, vI l2, vI l3, vI (iw (l4 + 1)), vI 0, w6]) (st' := []) (g' := g) k190_61 rfl rfl ?_
            refine q_s (pc' := 66) (ls' := [vR 137, vI l1, vI l2, vI l3, vI (iw (l4 + 1)), vI 0, w6]) (st' := [vI 0]) (g' := g) k190_64 rfl rfl ?_
            refine q_s (pc' := 83) (ls' := [vR 137, vI l1, vI l2, vI l3, vI (iw (l4 + 1)), vI 0, w6]) (st' := []) (g' := g) k190_66 rfl rfl ?_
            refine q_s (pc' := 86) (ls' := [vR 137, vI l1, vI l2, vI l3, vI (iw (l4 + 1)), vI 0, w6]) (st' := [vI (-201)]) (g' := g) k190_83 rfl rfl ?_
            refine q_s (pc' := 88) (ls' := [vR 137, vI l1, vI l2, vI l3, vI (iw (l4 + 1)), vI 0, vI (-201)]) (st' := []) (g' := g) k190_86 rfl rfl ?_
            refine q_s (pc' := 90) (ls' := [vR 137, vI l1, vI l2, vI l3, vI (iw (l4 + 1)), vI 0, vI (-201)]) (st' := [vI (-201)]) (g' := g) k190_88 rfl rfl ?_
            refine q_s (pc' := 93) (ls' := [vR 137, vI l1, vI l2, vI l3, vI (iw (l4 + 1)), vI 0, vI (-201)]) (st' := [vI (-201), vI (-201)]) (g' := g) k190_90 rfl rfl ?_
            refine q_s (pc' := 100) (ls' := [vR 137, vI l1, vI l2, vI l3, vI (iw (l4 + 1)), vI 0, vI (-201)]) (st' := []) (g' := g) k190_93 rfl rfl ?_
            refine q_s (pc' := 101) (ls' := [vR 137, vI l1, vI l2, vI l3, vI (iw (l4 + 1)), vI 0, vI (-201)]) (st' := [vI 0]) (g' := g) k190_100 rfl rfl ?_
            refine q_s (pc' := 103) (ls' := [vR 137, vI l1, vI l2, vI l3, vI (iw (l4 + 1)), vI 0, vI (-201)]) (st' := []) (g' := g) k190_101 rfl rfl ?_
            refine q_s (pc' := 105) (ls' := [vR 137, vI l1, vI l2, vI l3, vI (iw (l4 + 1)), vI 0, vI (-201)]) (st' := [vI 0]) (g' := g) k190_103 rfl rfl ?_
            refine q_s (pc' := 113) (ls' := [vR 137, vI l1, vI l2, vI l3, vI (iw (l4 + 1)), vI 0, vI (-201)]) (st' := []) (g' := g) k190_105 rfl rfl ?_
            refine q_s (pc' := 114) (ls' := [vR 137, vI l1, vI l2, vI l3, vI (iw (l4 + 1)), vI 0, vI (-201)]) (st' := [vI l3]) (g' := g) k190_113 rfl rfl ?_
            refine q_s (pc' := 115) (ls' := [vR 137, vI l1, vI l2, vI l3, vI (iw (l4 + 1)), vI 0, vI (-201)]) (st' := []) (g' := g) k190_114 rfl rfl ?_
            refine q_s (pc' := 8) (ls' := [vR 137, vI l1, vI l2, vI l3, vI (iw (l4 + 1)), vI 0, vI (-201)]) (st' := []) (g' := g) k190_115 rfl rfl ?_
            rfl
          · refine q_s (pc' := 40) (ls' := [vR 137, vI l1, vI l2, vI l3, vI l4, vI l5, w6]) (st' := [vR 137]) (g' := g) k190_39 rfl rfl ?_
            refine q_s (pc' := 41) (ls' := [vR 137, vI l1, vI l2, vI l3, vI l4, vI l5, w6]) (st' := [vI l1, vR 137]) (g' := g) k190_40 rfl rfl ?_
            refine q_s (pc' := 42) (ls' := [vR 137, vI l1, vI l2, vI l3, vI l4, vI l5, w6]) (st' := [vR 137, vI l1, vR 137]) (g' := g) k190_41 rfl rfl ?_
            refine q_s (pc' := 43) (ls' := [vR 137, vI l1, vI l2, vI l3, vI l4, vI l5, w6]) (st' := [vI l1, vR 137, vI l1, vR 137]) (g' := g) k190_42 rfl rfl ?_
            refine q_s (pc' := 44) (ls' := [vR 137, vI l1, vI l2, vI l3, vI l4, vI l5, w6]) (st' := [vI l3, vI l1, vR 137, vI l1, vR 137]) (g' := g) k190_43 rfl rfl ?_
            refine q_callI (ls0 := [vR 137, vI l1, vI l3]) (rest := [vI l1, vR 137]) (pc' := 47) rfl k190_44 rfl (hy4 rfl rfl rfl rfl) rfl rfl hq_147 rfl (fun q24 => ?_)
            refine q_callI (ls0 := [vR 137, vI l1, vI q24.1, vU, vU]) (rest := []) (pc' := 50) rfl k190_47 rfl (hy4 rfl rfl rfl rfl) rfl rfl hq_189 rfl (fun q25 => ?_)
            refine q_s (pc' := 51) (ls' := [vR 137, vI l1, vI l2, vI l3, vI l4, vI l5, w6]) (st' := [vI 1, vI q25.1]) (g' := q25.2) k190_50 rfl rfl ?_
            refine q_ic (P := q25.1 ≠ 1) (t := 58) (pc' := 54) k190_51 Iff.rfl rfl rfl (fun h26 => ?_) (fun h26 => ?_)
            · refine q_s (pc' := 59) (ls' := [vR 137, vI l1, vI l2, vI l3, vI l4, vI l5, w6]) (st' := [vI 0]) (g' := q25.2) k190_58 rfl rfl ?_
              refine q_s (pc' := 61) (ls' := [vR 137, vI l1, vI l2, vI l3, vI l4, vI 0, w6]) (st' := []) (g' := q25.2) k190_59 rfl rfl ?_
              refine q_s (pc' := 64) (ls' := [vR 137, vI l1, vI l2, vI l3, vI (iw (l4 + 1)), vI 0, w6]) (st' := []) (g' := q25.2) k190_61 rfl rfl ?_
              refine q_s (pc' := 66) (ls' := [vR 137, vI l1, vI l2, vI l3, vI (iw (l4 + 1)), vI 0, w6]) (st' := [vI 0]) (g' := q25.2) k190_64 rfl rfl ?_
              refine q_s (pc' := 83) (ls' := [vR 137, vI l1, vI l2, vI l3, vI (iw (l4 + 1)), vI 0, w6]) (st' := []) (g' := q25.2) k190_66 rfl rfl ?_
              refine q_s (pc' := 86) (ls' := [vR 137, vI l1, vI l2, vI l3, vI (iw (l4 + 1)), vI 0, w6]) (st' := [vI (-201)]) (g' := q25.2) k190_83 rfl rfl ?_
              refine q_s (pc' := 88) (ls' := [vR 137, vI l1, vI l2, vI l3, vI (iw (l4 + 1)), vI 0, vI (-201)]) (st' := []) (g' := q25.2) k190_86 rfl rfl ?_
              refine q_s (pc' := 90) (ls' := [vR 137, vI l1, vI l2, vI l3, vI (iw (l4 + 1)), vI 0, vI (-201)]) (st' := [vI (-201)]) (g' := q25.2) k190_88 rfl rfl ?_
              refine q_s (pc' := 93) (ls' := [vR 137, vI l1, vI l2, vI l3, vI (iw (l4 + 1)), vI 0, vI (-201)]) (st' := [vI (-201), vI (-201)]) (g' := q25.2) k190_90 rfl rfl ?_
              refine q_s (pc' := 100) (ls' := [vR 137, vI l1, vI l2, vI l3, vI (iw (l4 + 1)), vI 0, vI (-201)]) (st' := []) (g' := q25.2) k190_93 rfl rfl ?_
              refine q_s (pc' := 101) (ls' := [vR 137, vI l1, vI l2, vI l3, vI (iw (l4 + 1)), vI 0, vI (-201)]) (st' := [vI 0]) (g' := q25.2) k190_100 rfl rfl ?_
              refine q_s (pc' := 103) (ls' := [vR 137, vI l1, vI l2, vI l3, vI (iw (l4 + 1)), vI 0, vI (-201)]) (st' := []) (g' := q25.2) k190_101 rfl rfl ?_
              refine q_s (pc' := 105) (ls' := [vR 137, vI l1, vI l2, vI l3, vI (iw (l4 + 1)), vI 0, vI (-201)]) (st' := [vI 0]) (g' := q25.2) k190_103 rfl rfl ?_
              refine q_s (pc' := 113) (ls' := [vR 137, vI l1, vI l2, vI l3, vI (iw (l4 + 1)), vI 0, vI (-201)]) (st' := []) (g' := q25.2) k190_105 rfl rfl ?_
              refine q_s (pc' := 114) (ls' := [vR 137, vI l1, vI l2, vI l3, vI (iw (l4 + 1)), vI 0, vI (-201)]) (st' := [vI l3]) (g' := q25.2) k190_113 rfl rfl ?_
              refine q_s (pc' := 115) (ls' := [vR 137, vI l1, vI l2, vI l3, vI (iw (l4 + 1)), vI 0, vI (-201)]) (st' := []) (g' := q25.2) k190_114 rfl rfl ?_
              refine q_s (pc' := 8) (ls' := [vR 137, vI l1, vI l2, vI l3, vI (iw (l4 + 1)), vI 0, vI (-201)]) (st' := []) (g' := q25.2) k190_115 rfl rfl ?_
              rfl
            · refine q_s (pc' := 55) (ls' := [vR 137, vI l1, vI l2, vI l3, vI l4, vI l5, w6]) (st' := [vI 1]) (g' := q25.2) k190_54 rfl rfl ?_
              refine q_s (pc' := 59) (ls' := [vR 137, vI l1, vI l2, vI l3, vI l4, vI l5, w6]) (st' := [vI 1]) (g' := q25.2) k190_55 rfl rfl ?_
              refine q_s (pc' := 61) (ls' := [vR 137, vI l1, vI l2, vI l3, vI l4, vI 1, w6]) (st' := []) (g' := q25.2) k190_59 rfl rfl ?_
              refine q_s (pc' := 64) (ls' := [vR 137, vI l1, vI l2, vI l3, vI (iw (l4 + 1)), vI 1, w6]) (st' := []) (g' := q25.2) k190_61 rfl rfl ?_
              refine q_s (pc' := 66) (ls' := [vR 137, vI l1, vI l2, vI l3, vI (iw (l4 + 1)), vI 1, w6]) (st' := [vI 1]) (g' := q25.2) k190_64 rfl rfl ?_
              refine q_s (pc' := 69) (ls' := [vR 137, vI l1, vI l2, vI l3, vI (iw (l4 + 1)), vI 1, w6]) (st' := []) (g' := q25.2) k190_66 rfl rfl ?_
              refine q_s (pc' := 70) (ls' := [vR 137, vI l1, vI l2, vI l3, vI (iw (l4 + 1)), vI 1, w6]) (st' := [vR 137]) (g' := q25.2) k190_69 rfl rfl ?_
              refine q_s (pc' := 71) (ls' := [vR 137, vI l1, vI l2, vI l3, vI (iw (l4 + 1)), vI 1, w6]) (st' := [vI l1, vR 137]) (g' := q25.2) k190_70 rfl rfl ?_
              refine q_s (pc' := 72) (ls' := [vR 137, vI l1, vI l2, vI l3, vI (iw (l4 + 1)), vI 1, w6]) (st' := [vR 137, vI l1, vR 137]) (g' := q25.2) k190_71 rfl rfl ?_
              refine q_getF (r := 149) (pc' := 75) k190_72 rfl rfl rfl rfl ?_
              refine q_s (pc' := 76) (ls' := [vR 137, vI l1, vI l2, vI l3, vI (iw (l4 + 1)), vI 1, w6]) (st' := [vI l3, vR 149, vI l1, vR 137]) (g' := q25.2) k190_75 rfl rfl ?_
              refine q_iald (n := 6) (pc' := 77) rfl k190_76 rfl rfl (fun h27 => ?_)
              refine q_callI (ls0 := [vR 137, vI l1, vI (q25.2 149 l3), vU, vU]) (rest := []) (pc' := 80) rfl k190_77 rfl (hy4 rfl rfl rfl rfl) rfl rfl hq_178 rfl (fun q28 => ?_)
              refine q_s (pc' := 86) (ls' := [vR 137, vI l1, vI l2, vI l3, vI (iw (l4 + 1)), vI 1, w6]) (st' := [vI q28.1]) (g' := q28.2) k190_80 rfl rfl ?_
              refine q_s (pc' := 88) (ls' := [vR 137, vI l1, vI l2, vI l3, vI (iw (l4 + 1)), vI 1, vI q28.1]) (st' := []) (g' := q28.2) k190_86 rfl rfl ?_
              refine q_s (pc' := 90) (ls' := [vR 137, vI l1, vI l2, vI l3, vI (iw (l4 + 1)), vI 1, vI q28.1]) (st' := [vI q28.1]) (g' := q28.2) k190_88 rfl rfl ?_
              refine q_s (pc' := 93) (ls' := [vR 137, vI l1, vI l2, vI l3, vI (iw (l4 + 1)), vI 1, vI q28.1]) (st' := [vI (-201), vI q28.1]) (g' := q28.2) k190_90 rfl rfl ?_
              refine q_ic (P := q28.1 = (-201)) (t := 100) (pc' := 96) k190_93 Iff.rfl rfl rfl (fun h29 => ?_) (fun h29 => ?_)
              · refine q_s (pc' := 101) (ls' := [vR 137, vI l1, vI l2, vI l3, vI (iw (l4 + 1)), vI 1, vI q28.1]) (st' := [vI 0]) (g' := q28.2) k190_100 rfl rfl ?_
                refine q_s (pc' := 103) (ls' := [vR 137, vI l1, vI l2, vI l3, vI (iw (l4 + 1)), vI 0, vI q28.1]) (st' := []) (g' := q28.2) k190_101 rfl rfl ?_
                refine q_s (pc' := 105) (ls' := [vR 137, vI l1, vI l2, vI l3, vI (iw (l4 + 1)), vI 0, vI q28.1]) (st' := [vI 0]) (g' := q28.2) k190_103 rfl rfl ?_
                refine q_s (pc' := 113) (ls' := [vR 137, vI l1, vI l2, vI l3, vI (iw (l4 + 1)), vI 0, vI q28.1]) (st' := []) (g' := q28.2) k190_105 rfl rfl ?_
                refine q_s (pc' := 114) (ls' := [vR 137, vI l1, vI l2, vI l3, vI (iw (l4 + 1)), vI 0, vI q28.1]) (st' := [vI l3]) (g' := q28.2) k190_113 rfl rfl ?_
                refine q_s (pc' := 115) (ls' := [vR 137, vI l1, vI l2, vI l3, vI (iw (l4 + 1)), vI 0, vI q28.1]) (st' := []) (g' := q28.2) k190_114 rfl rfl ?_
                refine q_s (pc' := 8) (ls' := [vR 137, vI l1, vI l2, vI l3, vI (iw (l4 + 1)), vI 0, vI q28.1]) (st' := []) (g' := q28.2) k190_115 rfl rfl ?_
                rfl
              · refine q_s (pc' := 97) (ls' := [vR 137, vI l1, vI l2, vI l3, vI (iw (l4 + 1)), vI 1, vI q28.1]) (st' := [vI 1]) (g' := q28.2) k190_96 rfl rfl ?_
                refine q_s (pc' := 101) (ls' := [vR 137, vI l1, vI l2, vI l3, vI (iw (l4 + 1)), vI 1, vI q28.1]) (st' := [vI 1]) (g' := q28.2) k190_97 rfl rfl ?_
                refine q_s (pc' := 103) (ls' := [vR 137, vI l1, vI l2, vI l3, vI (iw (l4 + 1)), vI 1, vI q28.1]) (st' := []) (g' := q28.2) k190_101 rfl rfl ?_
                refine q_s (pc' := 105) (ls' := [vR 137, vI l1, vI l2, vI l3, vI (iw (l4 + 1)), vI 1, vI q28.1]) (st' := [vI 1]) (g' := q28.2) k190_103 rfl rfl ?_
                refine q_s (pc' := 108) (ls' := [vR 137, vI l1, vI l2, vI l3, vI (iw (l4 + 1)), vI 1, vI q28.1]) (st' := []) (g' := q28.2) k190_105 rfl rfl ?_
                refine q_s (pc' := 110) (ls' := [vR 137, vI l1, vI l2, vI l3, vI (iw (l4 + 1)), vI 1, vI q28.1]) (st' := [vI q28.1]) (g' := q28.2) k190_108 rfl rfl ?_
                refine q_s (pc' := 114) (ls' := [vR 137, vI l1, vI l2, vI l3, vI (iw (l4 + 1)), vI 1, vI q28.1]) (st' := [vI q28.1]) (g' := q28.2) k190_110 rfl rfl ?_
                refine q_s (pc' := 115) (ls' := [vR 137, vI l1, vI l2, vI q28.1, vI (iw (l4 + 1)), vI 1, vI q28.1]) (st' := []) (g' := q28.2) k190_114 rfl rfl ?_
                refine q_s (pc' := 8) (ls' := [vR 137, vI l1, vI l2, vI q28.1, vI (iw (l4 + 1)), vI 1, vI q28.1]) (st' := []) (g' := q28.2) k190_115 rfl rfl ?_
                rfl
set_option maxHeartbeats 4000000 in
theorem jM_rings_eq (L : Nat) (a1 : Int) (a2 : Int) (g : AMem) : jM_rings L a1 a2 g = (jM_isEdge L a1 g).bind (fun q1 => if q1.1 = 0 then ((jM_bad L q1.2).bind (fun q3 => some (q3.1, q3.2))) else ((jM_in L a2 0 2 q1.2).bind (fun q4 => if q4.1 ≠ 0 then ((jM_isClear L a1 q4.2).bind (fun q6 => if q6.1 ≠ 0 then ((jM_setOpen L a1 q6.2).bind (fun q8 => jM_rings_51 L a1 a2 0 0 0 0 vU q8)) else ((jM_no L q6.2).bind (fun q9 => some (q9.1, q9.2))))) else ((jM_bad L q4.2).bind (fun q10 => some (q10.1, q10.2)))))) := by
  unfold jM_rings
  refine q_s (pc' := 1) (ls' := [vR 137, vI a1, vI a2, vU, vU, vU, vU, vU]) (st' := [vR 137]) (g' := g) k191_0 rfl rfl ?_
  refine q_s (pc' := 2) (ls' := [vR 137, vI a1, vI a2, vU, vU, vU, vU, vU]) (st' := [vI a1, vR 137]) (g' := g) k191_1 rfl rfl ?_
  refine q_callI (ls0 := [vR 137, vI a1]) (rest := []) (pc' := 5) rfl k191_2 rfl (hy4 rfl rfl rfl rfl) rfl rfl hq_146 rfl (fun q1 => ?_)
  refine q_if (P := q1.1 = 0) (t := 17) (pc' := 8) k191_5 Iff.rfl rfl rfl (fun h2 => ?_) (fun h2 => ?_)
  · refine q_s (pc' := 18) (ls' := [vR 137, vI a1, vI a2, vU, vU, vU, vU, vU]) (st' := [vR 137]) (g' := q1.2) k191_17 rfl rfl ?_
    refine q_callI (ls0 := [vR 137]) (rest := []) (pc' := 21) rfl k191_18 rfl (hy4 rfl rfl rfl rfl) rfl rfl hq_135 rfl (fun q3 => ?_)
    exact q_e k191_21 rfl rfl rfl
  · refine q_s (pc' := 9) (ls' := [vR 137, vI a1, vI a2, vU, vU, vU, vU, vU]) (st' := [vI a2]) (g' := q1.2) k191_8 rfl rfl ?_
    refine q_s (pc' := 10) (ls' := [vR 137, vI a1, vI a2, vU, vU, vU, vU, vU]) (st' := [vI 0, vI a2]) (g' := q1.2) k191_9 rfl rfl ?_
    refine q_s (pc' := 11) (ls' := [vR 137, vI a1, vI a2, vU, vU, vU, vU, vU]) (st' := [vI 2, vI 0, vI a2]) (g' := q1.2) k191_10 rfl rfl ?_
    refine q_callI (ls0 := [vI a2, vI 0, vI 2]) (rest := []) (pc' := 14) rfl k191_11 rfl (hy4 rfl rfl rfl rfl) rfl rfl hq_138 rfl (fun q4 => ?_)
    refine q_if (P := q4.1 ≠ 0) (t := 22) (pc' := 17) k191_14 Iff.rfl rfl rfl (fun h5 => ?_) (fun h5 => ?_)
    · refine q_s (pc' := 23) (ls' := [vR 137, vI a1, vI a2, vU, vU, vU, vU, vU]) (st' := [vR 137]) (g' := q4.2) k191_22 rfl rfl ?_
      refine q_s (pc' := 24) (ls' := [vR 137, vI a1, vI a2, vU, vU, vU, vU, vU]) (st' := [vI a1, vR 137]) (g' := q4.2) k191_23 rfl rfl ?_
      refine q_callI (ls0 := [vR 137, vI a1, vU, vU]) (rest := []) (pc' := 27) rfl k191_24 rfl (hy4 rfl rfl rfl rfl) rfl rfl hq_167 rfl (fun q6 => ?_)
      refine q_if (P := q6.1 ≠ 0) (t := 35) (pc' := 30) k191_27 Iff.rfl rfl rfl (fun h7 => ?_) (fun h7 => ?_)
      · refine q_s (pc' := 36) (ls' := [vR 137, vI a1, vI a2, vU, vU, vU, vU, vU]) (st' := [vR 137]) (g' := q6.2) k191_35 rfl rfl ?_
        refine q_s (pc' := 37) (ls' := [vR 137, vI a1, vI a2, vU, vU, vU, vU, vU]) (st' := [vI a1, vR 137]) (g' := q6.2) k191_36 rfl rfl ?_
        refine q_callV (ls0 := [vR 137, vI a1, vU]) (rest := []) (pc' := 40) rfl k191_37 rfl (hy4 rfl rfl rfl rfl) rfl rfl hq_182 rfl (fun q8 => ?_)
        refine q_s (pc' := 41) (ls' := [vR 137, vI a1, vI a2, vU, vU, vU, vU, vU]) (st' := [vI 0]) (g' := q8) k191_40 rfl rfl ?_
        refine q_s (pc' := 42) (ls' := [vR 137, vI a1, vI a2, vI 0, vU, vU, vU, vU]) (st' := []) (g' := q8) k191_41 rfl rfl ?_
        refine q_s (pc' := 43) (ls' := [vR 137, vI a1, vI a2, vI 0, vU, vU, vU, vU]) (st' := [vI 0]) (g' := q8) k191_42 rfl rfl ?_
        refine q_s (pc' := 45) (ls' := [vR 137, vI a1, vI a2, vI 0, vI 0, vU, vU, vU]) (st' := []) (g' := q8) k191_43 rfl rfl ?_
        refine q_s (pc' := 46) (ls' := [vR 137, vI a1, vI a2, vI 0, vI 0, vU, vU, vU]) (st' := [vI 0]) (g' := q8) k191_45 rfl rfl ?_
        refine q_s (pc' := 48) (ls' := [vR 137, vI a1, vI a2, vI 0, vI 0, vI 0, vU, vU]) (st' := []) (g' := q8) k191_46 rfl rfl ?_
        refine q_s (pc' := 49) (ls' := [vR 137, vI a1, vI a2, vI 0, vI 0, vI 0, vU, vU]) (st' := [vI 0]) (g' := q8) k191_48 rfl rfl ?_
        refine q_s (pc' := 51) (ls' := [vR 137, vI a1, vI a2, vI 0, vI 0, vI 0, vI 0, vU]) (st' := []) (g' := q8) k191_49 rfl rfl ?_
        rfl
      · refine q_s (pc' := 31) (ls' := [vR 137, vI a1, vI a2, vU, vU, vU, vU, vU]) (st' := [vR 137]) (g' := q6.2) k191_30 rfl rfl ?_
        refine q_callI (ls0 := [vR 137]) (rest := []) (pc' := 34) rfl k191_31 rfl (hy4 rfl rfl rfl rfl) rfl rfl hq_136 rfl (fun q9 => ?_)
        exact q_e k191_34 rfl rfl rfl
    · refine q_s (pc' := 18) (ls' := [vR 137, vI a1, vI a2, vU, vU, vU, vU, vU]) (st' := [vR 137]) (g' := q4.2) k191_17 rfl rfl ?_
      refine q_callI (ls0 := [vR 137]) (rest := []) (pc' := 21) rfl k191_18 rfl (hy4 rfl rfl rfl rfl) rfl rfl hq_135 rfl (fun q10 => ?_)
      exact q_e k191_21 rfl rfl rfl
set_option maxHeartbeats 4000000 in
theorem jM_rings_51_eq (L : Nat) (l1 : Int) (l2 : Int) (l3 : Int) (l4 : Int) (l5 : Int) (l6 : Int) (w7 : AVal) (g : AMem) : jM_rings_51 L l1 l2 l3 l4 l5 l6 w7 g = (jM_manyOf L l1 g).bind (fun q11 => if q11.1 ≤ l6 then (if l2 ≠ 0 then (if l2 ≠ 1 then (some (l4, q11.2)) else (some (l3, q11.2))) else (some (iw (l5.tdiv 60), q11.2))) else (if 0 ≤ l6 ∧ l6 < 6 then (if q11.2 148 l6 = 0 then (if 0 ≤ l6 ∧ l6 < 6 then (if q11.2 148 l6 = 0 then (if 0 ≤ l3 then (jM_rings_51 L l1 l2 l3 (iw (l4 + 0)) (iw (l5 + 0)) (iw (l6 + 1)) (vI 0) q11.2) else (jM_rings_51 L l1 l2 0 (iw (l4 + 0)) (iw (l5 + 0)) (iw (l6 + 1)) (vI 0) q11.2)) else (if 0 ≤ l3 then (jM_rings_51 L l1 l2 l3 (iw (l4 + 1)) (iw (l5 + 0)) (iw (l6 + 1)) (vI 0) q11.2) else (jM_rings_51 L l1 l2 0 (iw (l4 + 1)) (iw (l5 + 0)) (iw (l6 + 1)) (vI 0) q11.2))) else none) else ((jM_ringOf L l1 l6 q11.2).bind (fun q21 => if 0 ≤ l6 ∧ l6 < 6 then (if q21.2 148 l6 = 0 then (if q21.1 ≤ l3 then (if q21.1 ≤ 0 then (jM_rings_51 L l1 l2 l3 (iw (l4 + 0)) (iw (l5 + 0)) (iw (l6 + 1)) (vI q21.1) q21.2) else (if q21.1 = 0 then none else jM_rings_51 L l1 l2 l3 (iw (l4 + 0)) (iw (l5 + (iw ((60 : Int).tdiv q21.1)))) (iw (l6 + 1)) (vI q21.1) q21.2)) else (if q21.1 ≤ 0 then (jM_rings_51 L l1 l2 q21.1 (iw (l4 + 0)) (iw (l5 + 0)) (iw (l6 + 1)) (vI q21.1) q21.2) else (if q21.1 = 0 then none else jM_rings_51 L l1 l2 q21.1 (iw (l4 + 0)) (iw (l5 + (iw ((60 : Int).tdiv q21.1)))) (iw (l6 + 1)) (vI q21.1) q21.2))) else (if q21.1 ≠ 0 then (if q21.1 ≤ l3 then (if q21.1 ≤ 0 then (jM_rings_51 L l1 l2 l3 (iw (l4 + 0)) (iw (l5 + 0)) (iw (l6 + 1)) (vI q21.1) q21.2) else (if q21.1 = 0 then none else jM_rings_51 L l1 l2 l3 (iw (l4 + 0)) (iw (l5 + (iw ((60 : Int).tdiv q21.1)))) (iw (l6 + 1)) (vI q21.1) q21.2)) else (if q21.1 ≤ 0 then (jM_rings_51 L l1 l2 q21.1 (iw (l4 + 0)) (iw (l5 + 0)) (iw (l6 + 1)) (vI q21.1) q21.2) else (if q21.1 = 0 then none else jM_rings_51 L l1 l2 q21.1 (iw (l4 + 0)) (iw (l5 + (iw ((60 : Int).tdiv q21.1)))) (iw (l6 + 1)) (vI q21.1) q21.2))) else (if q21.1 ≤ l3 then (if q21.1 ≤ 0 then (jM_rings_51 L l1 l2 l3 (iw (l4 + 1)) (iw (l5 + 0)) (iw (l6 + 1)) (vI q21.1) q21.2) else (if q21.1 = 0 then none else jM_rings_51 L l1 l2 l3 (iw (l4 + 1)) (iw (l5 + (iw ((60 : Int).tdiv q21.1)))) (iw (l6 + 1)) (vI q21.1) q21.2)) else (if q21.1 ≤ 0 then (jM_rings_51 L l1 l2 q21.1 (iw (l4 + 1)) (iw (l5 + 0)) (iw (l6 + 1)) (vI q21.1) q21.2) else (if q21.1 = 0 then none else jM_rings_51 L l1 l2 q21.1 (iw (l4 + 1)) (iw (l5 + (iw ((60 : Int).tdiv q21.1)))) (iw (l6 + 1)) (vI q21.1) q21.2))))) else none))) else none)) := by
  unfold jM_rings_51
  refine q_s (pc' := 53) (ls' := [vR 137, vI l1, vI l2, vI l3, vI l4, vI l5, vI l6, w7]) (st' := [vI l6]) (g' := g) k191_51 rfl rfl ?_
  refine q_s (pc' := 54) (ls' := [vR 137, vI l1, vI l2, vI l3, vI l4, vI l5, vI l6, w7]) (st' := [vR 137, vI l6]) (g' := g) k191_53 rfl rfl ?_
  refine q_s (pc' := 55) (ls' := [vR 137, vI l1, vI l2, vI l3, vI l4, vI l5, vI l6, w7]) (st' := [vI l1, vR 137, vI l6]) (g' := g) k191_54 rfl rfl ?_
  refine q_callI (ls0 := [vR 137, vI l1]) (rest := [vI l6]) (pc' := 58) rfl k191_55 rfl (hy4 rfl rfl rfl rfl) rfl rfl hq_148 rfl (fun q11 => ?_)
  refine q_ic (P := q11.1 ≤ l6) (t := 147) (pc' := 61) k191_58 Iff.rfl rfl rfl (fun h12 => ?_) (fun h12 => ?_)
  · refine q_s (pc' := 148) (ls' := [vR 137, vI l1, vI l2, vI l3, vI l4, vI l5, vI l6, w7]) (st' := [vI l2]) (g' := q11.2) k191_147 rfl rfl ?_
    refine q_if (P := l2 ≠ 0) (t := 159) (pc' := 151) k191_148 Iff.rfl rfl rfl (fun h13 => ?_) (fun h13 => ?_)
    · refine q_s (pc' := 160) (ls' := [vR 137, vI l1, vI l2, vI l3, vI l4, vI l5, vI l6, w7]) (st' := [vI l2]) (g' := q11.2) k191_159 rfl rfl ?_
      refine q_s (pc' := 161) (ls' := [vR 137, vI l1, vI l2, vI l3, vI l4, vI l5, vI l6, w7]) (st' := [vI 1, vI l2]) (g' := q11.2) k191_160 rfl rfl ?_
      refine q_ic (P := l2 ≠ 1) (t := 168) (pc' := 164) k191_161 Iff.rfl rfl rfl (fun h14 => ?_) (fun h14 => ?_)
      · refine q_s (pc' := 170) (ls' := [vR 137, vI l1, vI l2, vI l3, vI l4, vI l5, vI l6, w7]) (st' := [vI l4]) (g' := q11.2) k191_168 rfl rfl ?_
        exact q_e k191_170 rfl rfl rfl
      · refine q_s (pc' := 165) (ls' := [vR 137, vI l1, vI l2, vI l3, vI l4, vI l5, vI l6, w7]) (st' := [vI l3]) (g' := q11.2) k191_164 rfl rfl ?_
        refine q_s (pc' := 170) (ls' := [vR 137, vI l1, vI l2, vI l3, vI l4, vI l5, vI l6, w7]) (st' := [vI l3]) (g' := q11.2) k191_165 rfl rfl ?_
        exact q_e k191_170 rfl rfl rfl
    · refine q_s (pc' := 153) (ls' := [vR 137, vI l1, vI l2, vI l3, vI l4, vI l5, vI l6, w7]) (st' := [vI l5]) (g' := q11.2) k191_151 rfl rfl ?_
      refine q_s (pc' := 155) (ls' := [vR 137, vI l1, vI l2, vI l3, vI l4, vI l5, vI l6, w7]) (st' := [vI 60, vI l5]) (g' := q11.2) k191_153 rfl rfl ?_
      refine q_s (pc' := 156) (ls' := [vR 137, vI l1, vI l2, vI l3, vI l4, vI l5, vI l6, w7]) (st' := [vI (iw (l5.tdiv 60))]) (g' := q11.2) k191_155 rfl rfl ?_
      refine q_s (pc' := 170) (ls' := [vR 137, vI l1, vI l2, vI l3, vI l4, vI l5, vI l6, w7]) (st' := [vI (iw (l5.tdiv 60))]) (g' := q11.2) k191_156 rfl rfl ?_
      exact q_e k191_170 rfl rfl rfl
  · refine q_s (pc' := 62) (ls' := [vR 137, vI l1, vI l2, vI l3, vI l4, vI l5, vI l6, w7]) (st' := [vR 137]) (g' := q11.2) k191_61 rfl rfl ?_
    refine q_getF (r := 148) (pc' := 65) k191_62 rfl rfl rfl rfl ?_
    refine q_s (pc' := 67) (ls' := [vR 137, vI l1, vI l2, vI l3, vI l4, vI l5, vI l6, w7]) (st' := [vI l6, vR 148]) (g' := q11.2) k191_65 rfl rfl ?_
    refine q_bald (n := 6) (pc' := 68) rfl k191_67 rfl rfl (fun h15 => ?_)
    refine q_if (P := q11.2 148 l6 = 0) (t := 81) (pc' := 71) k191_68 Iff.rfl rfl rfl (fun h16 => ?_) (fun h16 => ?_)
    · refine q_s (pc' := 82) (ls' := [vR 137, vI l1, vI l2, vI l3, vI l4, vI l5, vI l6, w7]) (st' := [vI 0]) (g' := q11.2) k191_81 rfl rfl ?_
      refine q_s (pc' := 84) (ls' := [vR 137, vI l1, vI l2, vI l3, vI l4, vI l5, vI l6, vI 0]) (st' := []) (g' := q11.2) k191_82 rfl rfl ?_
      refine q_s (pc' := 86) (ls' := [vR 137, vI l1, vI l2, vI l3, vI l4, vI l5, vI l6, vI 0]) (st' := [vI l4]) (g' := q11.2) k191_84 rfl rfl ?_
      refine q_s (pc' := 87) (ls' := [vR 137, vI l1, vI l2, vI l3, vI l4, vI l5, vI l6, vI 0]) (st' := [vR 137, vI l4]) (g' := q11.2) k191_86 rfl rfl ?_
      refine q_getF (r := 148) (pc' := 90) k191_87 rfl rfl rfl rfl ?_
      refine q_s (pc' := 92) (ls' := [vR 137, vI l1, vI l2, vI l3, vI l4, vI l5, vI l6, vI 0]) (st' := [vI l6, vR 148, vI l4]) (g' := q11.2) k191_90 rfl rfl ?_
      refine q_bald (n := 6) (pc' := 93) rfl k191_92 rfl rfl (fun h17 => ?_)
      refine q_if (P := q11.2 148 l6 = 0) (t := 105) (pc' := 96) k191_93 Iff.rfl rfl rfl (fun h18 => ?_) (fun h18 => ?_)
      · refine q_s (pc' := 106) (ls' := [vR 137, vI l1, vI l2, vI l3, vI l4, vI l5, vI l6, vI 0]) (st' := [vI 0, vI l4]) (g' := q11.2) k191_105 rfl rfl ?_
        refine q_s (pc' := 107) (ls' := [vR 137, vI l1, vI l2, vI l3, vI l4, vI l5, vI l6, vI 0]) (st' := [vI (iw (l4 + 0))]) (g' := q11.2) k191_106 rfl rfl ?_
        refine q_s (pc' := 109) (ls' := [vR 137, vI l1, vI l2, vI l3, vI (iw (l4 + 0)), vI l5, vI l6, vI 0]) (st' := []) (g' := q11.2) k191_107 rfl rfl ?_
        refine q_s (pc' := 111) (ls' := [vR 137, vI l1, vI l2, vI l3, vI (iw (l4 + 0)), vI l5, vI l6, vI 0]) (st' := [vI 0]) (g' := q11.2) k191_109 rfl rfl ?_
        refine q_s (pc' := 112) (ls' := [vR 137, vI l1, vI l2, vI l3, vI (iw (l4 + 0)), vI l5, vI l6, vI 0]) (st' := [vI l3, vI 0]) (g' := q11.2) k191_111 rfl rfl ?_
        refine q_ic (P := 0 ≤ l3) (t := 120) (pc' := 115) k191_112 Iff.rfl rfl rfl (fun h19 => ?_) (fun h19 => ?_)
        · refine q_s (pc' := 121) (ls' := [vR 137, vI l1, vI l2, vI l3, vI (iw (l4 + 0)), vI l5, vI l6, vI 0]) (st' := [vI l3]) (g' := q11.2) k191_120 rfl rfl ?_
          refine q_s (pc' := 122) (ls' := [vR 137, vI l1, vI l2, vI l3, vI (iw (l4 + 0)), vI l5, vI l6, vI 0]) (st' := []) (g' := q11.2) k191_121 rfl rfl ?_
          refine q_s (pc' := 124) (ls' := [vR 137, vI l1, vI l2, vI l3, vI (iw (l4 + 0)), vI l5, vI l6, vI 0]) (st' := [vI l5]) (g' := q11.2) k191_122 rfl rfl ?_
          refine q_s (pc' := 126) (ls' := [vR 137, vI l1, vI l2, vI l3, vI (iw (l4 + 0)), vI l5, vI l6, vI 0]) (st' := [vI 0, vI l5]) (g' := q11.2) k191_124 rfl rfl ?_
          refine q_s (pc' := 137) (ls' := [vR 137, vI l1, vI l2, vI l3, vI (iw (l4 + 0)), vI l5, vI l6, vI 0]) (st' := [vI l5]) (g' := q11.2) k191_126 rfl rfl ?_
          refine q_s (pc' := 138) (ls' := [vR 137, vI l1, vI l2, vI l3, vI (iw (l4 + 0)), vI l5, vI l6, vI 0]) (st' := [vI 0, vI l5]) (g' := q11.2) k191_137 rfl rfl ?_
          refine q_s (pc' := 139) (ls' := [vR 137, vI l1, vI l2, vI l3, vI (iw (l4 + 0)), vI l5, vI l6, vI 0]) (st' := [vI (iw (l5 + 0))]) (g' := q11.2) k191_138 rfl rfl ?_
          refine q_s (pc' := 141) (ls' := [vR 137, vI l1, vI l2, vI l3, vI (iw (l4 + 0)), vI (iw (l5 + 0)), vI l6, vI 0]) (st' := []) (g' := q11.2) k191_139 rfl rfl ?_
          refine q_s (pc' := 144) (ls' := [vR 137, vI l1, vI l2, vI l3, vI (iw (l4 + 0)), vI (iw (l5 + 0)), vI (iw (l6 + 1)), vI 0]) (st' := []) (g' := q11.2) k191_141 rfl rfl ?_
          refine q_s (pc' := 51) (ls' := [vR 137, vI l1, vI l2, vI l3, vI (iw (l4 + 0)), vI (iw (l5 + 0)), vI (iw (l6 + 1)), vI 0]) (st' := []) (g' := q11.2) k191_144 rfl rfl ?_
          rfl
        · refine q_s (pc' := 117) (ls' := [vR 137, vI l1, vI l2, vI l3, vI (iw (l4 + 0)), vI l5, vI l6, vI 0]) (st' := [vI 0]) (g' := q11.2) k191_115 rfl rfl ?_
          refine q_s (pc' := 121) (ls' := [vR 137, vI l1, vI l2, vI l3, vI (iw (l4 + 0)), vI l5, vI l6, vI 0]) (st' := [vI 0]) (g' := q11.2) k191_117 rfl rfl ?_
          refine q_s (pc' := 122) (ls' := [vR 137, vI l1, vI l2, vI 0, vI (iw (l4 + 0)), vI l5, vI l6, vI 0]) (st' := []) (g' := q11.2) k191_121 rfl rfl ?_
          refine q_s (pc' := 124) (ls' := [vR 137, vI l1, vI l2, vI 0, vI (iw (l4 + 0)), vI l5, vI l6, vI 0]) (st' := [vI l5]) (g' := q11.2) k191_122 rfl rfl ?_
          refine q_s (pc' := 126) (ls' := [vR 137, vI l1, vI l2, vI 0, vI (iw (l4 + 0)), vI l5, vI l6, vI 0]) (st' := [vI 0, vI l5]) (g' := q11.2) k191_124 rfl rfl ?_
          refine q_s (pc' := 137) (ls' := [vR 137, vI l1, vI l2, vI 0, vI (iw (l4 + 0)), vI l5, vI l6, vI 0]) (st' := [vI l5]) (g' := q11.2) k191_126 rfl rfl ?_
          refine q_s (pc' := 138) (ls' := [vR 137, vI l1, vI l2, vI 0, vI (iw (l4 + 0)), vI l5, vI l6, vI 0]) (st' := [vI 0, vI l5]) (g' := q11.2) k191_137 rfl rfl ?_
          refine q_s (pc' := 139) (ls' := [vR 137, vI l1, vI l2, vI 0, vI (iw (l4 + 0)), vI l5, vI l6, vI 0]) (st' := [vI (iw (l5 + 0))]) (g' := q11.2) k191_138 rfl rfl ?_
          refine q_s (pc' := 141) (ls' := [vR 137, vI l1, vI l2, vI 0, vI (iw (l4 + 0)), vI (iw (l5 + 0)), vI l6, vI 0]) (st' := []) (g' := q11.2) k191_139 rfl rfl ?_
          refine q_s (pc' := 144) (ls' := [vR 137, vI l1, vI l2, vI 0, vI (iw (l4 + 0)), vI (iw (l5 + 0)), vI (iw (l6 + 1)), vI 0]) (st' := []) (g' := q11.2) k191_141 rfl rfl ?_
          refine q_s (pc' := 51) (ls' := [vR 137, vI l1, vI l2, vI 0, vI (iw (l4 + 0)), vI (iw (l5 + 0)), vI (iw (l6 + 1)), vI 0]) (st' := []) (g' := q11.2) k191_144 rfl rfl ?_
          rfl
      · refine q_s (pc' := 98) (ls' := [vR 137, vI l1, vI l2, vI l3, vI l4, vI l5, vI l6, vI 0]) (st' := [vI 0, vI l4]) (g' := q11.2) k191_96 rfl rfl ?_
        refine q_s (pc' := 101) (ls' := [vR 137, vI l1, vI l2, vI l3, vI l4, vI l5, vI l6, vI 0]) (st' := [vI l4]) (g' := q11.2) k191_98 rfl rfl ?_
        refine q_s (pc' := 102) (ls' := [vR 137, vI l1, vI l2, vI l3, vI l4, vI l5, vI l6, vI 0]) (st' := [vI 1, vI l4]) (g' := q11.2) k191_101 rfl rfl ?_
        refine q_s (pc' := 106) (ls' := [vR 137, vI l1, vI l2, vI l3, vI l4, vI l5, vI l6, vI 0]) (st' := [vI 1, vI l4]) (g' := q11.2) k191_102 rfl rfl ?_
        refine q_s (pc' := 107) (ls' := [vR 137, vI l1, vI l2, vI l3, vI l4, vI l5, vI l6, vI 0]) (st' := [vI (iw (l4 + 1))]) (g' := q11.2) k191_106 rfl rfl ?_
        refine q_s (pc' := 109) (ls' := [vR 137, vI l1, vI l2, vI l3, vI (iw (l4 + 1)), vI l5, vI l6, vI 0]) (st' := []) (g' := q11.2) k191_107 rfl rfl ?_
        refine q_s (pc' := 111) (ls' := [vR 137, vI l1, vI l2, vI l3, vI (iw (l4 + 1)), vI l5, vI l6, vI 0]) (st' := [vI 0]) (g' := q11.2) k191_109 rfl rfl ?_
        refine q_s (pc' := 112) (ls' := [vR 137, vI l1, vI l2, vI l3, vI (iw (l4 + 1)), vI l5, vI l6, vI 0]) (st' := [vI l3, vI 0]) (g' := q11.2) k191_111 rfl rfl ?_
        refine q_ic (P := 0 ≤ l3) (t := 120) (pc' := 115) k191_112 Iff.rfl rfl rfl (fun h20 => ?_) (fun h20 => ?_)
        · refine q_s (pc' := 121) (ls' := [vR 137, vI l1, vI l2, vI l3, vI (iw (l4 + 1)), vI l5, vI l6, vI 0]) (st' := [vI l3]) (g' := q11.2) k191_120 rfl rfl ?_
          refine q_s (pc' := 122) (ls' := [vR 137, vI l1, vI l2, vI l3, vI (iw (l4 + 1)), vI l5, vI l6, vI 0]) (st' := []) (g' := q11.2) k191_121 rfl rfl ?_
          refine q_s (pc' := 124) (ls' := [vR 137, vI l1, vI l2, vI l3, vI (iw (l4 + 1)), vI l5, vI l6, vI 0]) (st' := [vI l5]) (g' := q11.2) k191_122 rfl rfl ?_
          refine q_s (pc' := 126) (ls' := [vR 137, vI l1, vI l2, vI l3, vI (iw (l4 + 1)), vI l5, vI l6, vI 0]) (st' := [vI 0, vI l5]) (g' := q11.2) k191_124 rfl rfl ?_
          refine q_s (pc' := 137) (ls' := [vR 137, vI l1, vI l2, vI l3, vI (iw (l4 + 1)), vI l5, vI l6, vI 0]) (st' := [vI l5]) (g' := q11.2) k191_126 rfl rfl ?_
          refine q_s (pc' := 138) (ls' := [vR 137, vI l1, vI l2, vI l3, vI (iw (l4 + 1)), vI l5, vI l6, vI 0]) (st' := [vI 0, vI l5]) (g' := q11.2) k191_137 rfl rfl ?_
          refine q_s (pc' := 139) (ls' := [vR 137, vI l1, vI l2, vI l3, vI (iw (l4 + 1)), vI l5, vI l6, vI 0]) (st' := [vI (iw (l5 + 0))]) (g' := q11.2) k191_138 rfl rfl ?_
          refine q_s (pc' := 141) (ls' := [vR 137, vI l1, vI l2, vI l3, vI (iw (l4 + 1)), vI (iw (l5 + 0)), vI l6, vI 0]) (st' := []) (g' := q11.2) k191_139 rfl rfl ?_
          refine q_s (pc' := 144) (ls' := [vR 137, vI l1, vI l2, vI l3, vI (iw (l4 + 1)), vI (iw (l5 + 0)), vI (iw (l6 + 1)), vI 0]) (st' := []) (g' := q11.2) k191_141 rfl rfl ?_
          refine q_s (pc' := 51) (ls' := [vR 137, vI l1, vI l2, vI l3, vI (iw (l4 + 1)), vI (iw (l5 + 0)), vI (iw (l6 + 1)), vI 0]) (st' := []) (g' := q11.2) k191_144 rfl rfl ?_
          rfl
        · refine q_s (pc' := 117) (ls' := [vR 137, vI l1, vI l2, vI l3, vI (iw (l4 + 1)), vI l5, vI l6, vI 0]) (st' := [vI 0]) (g' := q11.2) k191_115 rfl rfl ?_
          refine q_s (pc' := 121) (ls' := [vR 137, vI l1, vI l2, vI l3, vI (iw (l4 + 1)), vI l5, vI l6, vI 0]) (st' := [vI 0]) (g' := q11.2) k191_117 rfl rfl ?_
          refine q_s (pc' := 122) (ls' := [vR 137, vI l1, vI l2, vI 0, vI (iw (l4 + 1)), vI l5, vI l6, vI 0]) (st' := []) (g' := q11.2) k191_121 rfl rfl ?_
          refine q_s (pc' := 124) (ls' := [vR 137, vI l1, vI l2, vI 0, vI (iw (l4 + 1)), vI l5, vI l6, vI 0]) (st' := [vI l5]) (g' := q11.2) k191_122 rfl rfl ?_
          refine q_s (pc' := 126) (ls' := [vR 137, vI l1, vI l2, vI 0, vI (iw (l4 + 1)), vI l5, vI l6, vI 0]) (st' := [vI 0, vI l5]) (g' := q11.2) k191_124 rfl rfl ?_
          refine q_s (pc' := 137) (ls' := [vR 137, vI l1, vI l2, vI 0, vI (iw (l4 + 1)), vI l5, vI l6, vI 0]) (st' := [vI l5]) (g' := q11.2) k191_126 rfl rfl ?_
          refine q_s (pc' := 138) (ls' := [vR 137, vI l1, vI l2, vI 0, vI (iw (l4 + 1)), vI l5, vI l6, vI 0]) (st' := [vI 0, vI l5]) (g' := q11.2) k191_137 rfl rfl ?_
          refine q_s (pc' := 139) (ls' := [vR 137, vI l1, vI l2, vI 0, vI (iw (l4 + 1)), vI l5, vI l6, vI 0]) (st' := [vI (iw (l5 + 0))]) (g' := q11.2) k191_138 rfl rfl ?_
          refine q_s (pc' := 141) (ls' := [vR 137, vI l1, vI l2, vI 0, vI (iw (l4 + 1)), vI (iw (l5 + 0)), vI l6, vI 0]) (st' := []) (g' := q11.2) k191_139 rfl rfl ?_
          refine q_s (pc' := 144) (ls' := [vR 137, vI l1, vI l2, vI 0, vI (iw (l4 + 1)), vI (iw (l5 + 0)), vI (iw (l6 + 1)), vI 0]) (st' := []) (g' := q11.2) k191_141 rfl rfl ?_
          refine q_s (pc' := 51) (ls' := [vR 137, vI l1, vI l2, vI 0, vI (iw (l4 + 1)), vI (iw (l5 + 0)), vI (iw (l6 + 1)), vI 0]) (st' := []) (g' := q11.2) k191_144 rfl rfl ?_
          rfl
    · refine q_s (pc' := 72) (ls' := [vR 137, vI l1, vI l2, vI l3, vI l4, vI l5, vI l6, w7]) (st' := [vR 137]) (g' := q11.2) k191_71 rfl rfl ?_
      refine q_s (pc' := 73) (ls' := [vR 137, vI l1, vI l2, vI l3, vI l4, vI l5, vI l6, w7]) (st' := [vI l1, vR 137]) (g' := q11.2) k191_72 rfl rfl ?_
      refine q_s (pc' := 75) (ls' := [vR 137, vI l1, vI l2, vI l3, vI l4, vI l5, vI l6, w7]) (st' := [vI l6, vI l1, vR 137]) (g' := q11.2) k191_73 rfl rfl ?_
      refine q_callI (ls0 := [vR 137, vI l1, vI l6, vU, vU, vU, vU]) (rest := []) (pc' := 78) rfl k191_75 rfl (hy4 rfl rfl rfl rfl) rfl rfl hq_190 rfl (fun q21 => ?_)
      refine q_s (pc' := 82) (ls' := [vR 137, vI l1, vI l2, vI l3, vI l4, vI l5, vI l6, w7]) (st' := [vI q21.1]) (g' := q21.2) k191_78 rfl rfl ?_
      refine q_s (pc' := 84) (ls' := [vR 137, vI l1, vI l2, vI l3, vI l4, vI l5, vI l6, vI q21.1]) (st' := []) (g' := q21.2) k191_82 rfl rfl ?_
      refine q_s (pc' := 86) (ls' := [vR 137, vI l1, vI l2, vI l3, vI l4, vI l5, vI l6, vI q21.1]) (st' := [vI l4]) (g' := q21.2) k191_84 rfl rfl ?_
      refine q_s (pc' := 87) (ls' := [vR 137, vI l1, vI l2, vI l3, vI l4, vI l5, vI l6, vI q21.1]) (st' := [vR 137, vI l4]) (g' := q21.2) k191_86 rfl rfl ?_
      refine q_getF (r := 148) (pc' := 90) k191_87 rfl rfl rfl rfl ?_
      refine q_s (pc' := 92) (ls' := [vR 137, vI l1, vI l2, vI l3, vI l4, vI l5, vI l6, vI q21.1]) (st' := [vI l6, vR 148, vI l4]) (g' := q21.2) k191_90 rfl rfl ?_
      refine q_bald (n := 6) (pc' := 93) rfl k191_92 rfl rfl (fun h22 => ?_)
      refine q_if (P := q21.2 148 l6 = 0) (t := 105) (pc' := 96) k191_93 Iff.rfl rfl rfl (fun h23 => ?_) (fun h23 => ?_)
      · refine q_s (pc' := 106) (ls' := [vR 137, vI l1, vI l2, vI l3, vI l4, vI l5, vI l6, vI q21.1]) (st' := [vI 0, vI l4]) (g' := q21.2) k191_105 rfl rfl ?_
        refine q_s (pc' := 107) (ls' := [vR 137, vI l1, vI l2, vI l3, vI l4, vI l5, vI l6, vI q21.1]) (st' := [vI (iw (l4 + 0))]) (g' := q21.2) k191_106 rfl rfl ?_
        refine q_s (pc' := 109) (ls' := [vR 137, vI l1, vI l2, vI l3, vI (iw (l4 + 0)), vI l5, vI l6, vI q21.1]) (st' := []) (g' := q21.2) k191_107 rfl rfl ?_
        refine q_s (pc' := 111) (ls' := [vR 137, vI l1, vI l2, vI l3, vI (iw (l4 + 0)), vI l5, vI l6, vI q21.1]) (st' := [vI q21.1]) (g' := q21.2) k191_109 rfl rfl ?_
        refine q_s (pc' := 112) (ls' := [vR 137, vI l1, vI l2, vI l3, vI (iw (l4 + 0)), vI l5, vI l6, vI q21.1]) (st' := [vI l3, vI q21.1]) (g' := q21.2) k191_111 rfl rfl ?_
        refine q_ic (P := q21.1 ≤ l3) (t := 120) (pc' := 115) k191_112 Iff.rfl rfl rfl (fun h24 => ?_) (fun h24 => ?_)
        · refine q_s (pc' := 121) (ls' := [vR 137, vI l1, vI l2, vI l3, vI (iw (l4 + 0)), vI l5, vI l6, vI q21.1]) (st' := [vI l3]) (g' := q21.2) k191_120 rfl rfl ?_
          refine q_s (pc' := 122) (ls' := [vR 137, vI l1, vI l2, vI l3, vI (iw (l4 + 0)), vI l5, vI l6, vI q21.1]) (st' := []) (g' := q21.2) k191_121 rfl rfl ?_
          refine q_s (pc' := 124) (ls' := [vR 137, vI l1, vI l2, vI l3, vI (iw (l4 + 0)), vI l5, vI l6, vI q21.1]) (st' := [vI l5]) (g' := q21.2) k191_122 rfl rfl ?_
          refine q_s (pc' := 126) (ls' := [vR 137, vI l1, vI l2, vI l3, vI (iw (l4 + 0)), vI l5, vI l6, vI q21.1]) (st' := [vI q21.1, vI l5]) (g' := q21.2) k191_124 rfl rfl ?_
          refine q_if (P := q21.1 ≤ 0) (t := 137) (pc' := 129) k191_126 Iff.rfl rfl rfl (fun h25 => ?_) (fun h25 => ?_)
          · refine q_s (pc' := 138) (ls' := [vR 137, vI l1, vI l2, vI l3, vI (iw (l4 + 0)), vI l5, vI l6, vI q21.1]) (st' := [vI 0, vI l5]) (g' := q21.2) k191_137 rfl rfl ?_
            refine q_s (pc' := 139) (ls' := [vR 137, vI l1, vI l2, vI l3, vI (iw (l4 + 0)), vI l5, vI l6, vI q21.1]) (st' := [vI (iw (l5 + 0))]) (g' := q21.2) k191_138 rfl rfl ?_
            refine q_s (pc' := 141) (ls' := [vR 137, vI l1, vI l2, vI l3, vI (iw (l4 + 0)), vI (iw (l5 + 0)), vI l6, vI q21.1]) (st' := []) (g' := q21.2) k191_139 rfl rfl ?_
            refine q_s (pc' := 144) (ls' := [vR 137, vI l1, vI l2, vI l3, vI (iw (l4 + 0)), vI (iw (l5 + 0)), vI (iw (l6 + 1)), vI q21.1]) (st' := []) (g' := q21.2) k191_141 rfl rfl ?_
            refine q_s (pc' := 51) (ls' := [vR 137, vI l1, vI l2, vI l3, vI (iw (l4 + 0)), vI (iw (l5 + 0)), vI (iw (l6 + 1)), vI q21.1]) (st' := []) (g' := q21.2) k191_144 rfl rfl ?_
            rfl
          · refine q_s (pc' := 131) (ls' := [vR 137, vI l1, vI l2, vI l3, vI (iw (l4 + 0)), vI l5, vI l6, vI q21.1]) (st' := [vI 60, vI l5]) (g' := q21.2) k191_129 rfl rfl ?_
            refine q_s (pc' := 133) (ls' := [vR 137, vI l1, vI l2, vI l3, vI (iw (l4 + 0)), vI l5, vI l6, vI q21.1]) (st' := [vI q21.1, vI 60, vI l5]) (g' := q21.2) k191_131 rfl rfl ?_
            refine q_idiv (pc' := 134) rfl k191_133 rfl (fun _ => ?_)
            refine q_s (pc' := 138) (ls' := [vR 137, vI l1, vI l2, vI l3, vI (iw (l4 + 0)), vI l5, vI l6, vI q21.1]) (st' := [vI (iw ((60 : Int).tdiv q21.1)), vI l5]) (g' := q21.2) k191_134 rfl rfl ?_
            refine q_s (pc' := 139) (ls' := [vR 137, vI l1, vI l2, vI l3, vI (iw (l4 + 0)), vI l5, vI l6, vI q21.1]) (st' := [vI (iw (l5 + (iw ((60 : Int).tdiv q21.1))))]) (g' := q21.2) k191_138 rfl rfl ?_
            refine q_s (pc' := 141) (ls' := [vR 137, vI l1, vI l2, vI l3, vI (iw (l4 + 0)), vI (iw (l5 + (iw ((60 : Int).tdiv q21.1)))), vI l6, vI q21.1]) (st' := []) (g' := q21.2) k191_139 rfl rfl ?_
            refine q_s (pc' := 144) (ls' := [vR 137, vI l1, vI l2, vI l3, vI (iw (l4 + 0)), vI (iw (l5 + (iw ((60 : Int).tdiv q21.1)))), vI (iw (l6 + 1)), vI q21.1]) (st' := []) (g' := q21.2) k191_141 rfl rfl ?_
            refine q_s (pc' := 51) (ls' := [vR 137, vI l1, vI l2, vI l3, vI (iw (l4 + 0)), vI (iw (l5 + (iw ((60 : Int).tdiv q21.1)))), vI (iw (l6 + 1)), vI q21.1]) (st' := []) (g' := q21.2) k191_144 rfl rfl ?_
            rfl
        · refine q_s (pc' := 117) (ls' := [vR 137, vI l1, vI l2, vI l3, vI (iw (l4 + 0)), vI l5, vI l6, vI q21.1]) (st' := [vI q21.1]) (g' := q21.2) k191_115 rfl rfl ?_
          refine q_s (pc' := 121) (ls' := [vR 137, vI l1, vI l2, vI l3, vI (iw (l4 + 0)), vI l5, vI l6, vI q21.1]) (st' := [vI q21.1]) (g' := q21.2) k191_117 rfl rfl ?_
          refine q_s (pc' := 122) (ls' := [vR 137, vI l1, vI l2, vI q21.1, vI (iw (l4 + 0)), vI l5, vI l6, vI q21.1]) (st' := []) (g' := q21.2) k191_121 rfl rfl ?_
          refine q_s (pc' := 124) (ls' := [vR 137, vI l1, vI l2, vI q21.1, vI (iw (l4 + 0)), vI l5, vI l6, vI q21.1]) (st' := [vI l5]) (g' := q21.2) k191_122 rfl rfl ?_
          refine q_s (pc' := 126) (ls' := [vR 137, vI l1, vI l2, vI q21.1, vI (iw (l4 + 0)), vI l5, vI l6, vI q21.1]) (st' := [vI q21.1, vI l5]) (g' := q21.2) k191_124 rfl rfl ?_
          refine q_if (P := q21.1 ≤ 0) (t := 137) (pc' := 129) k191_126 Iff.rfl rfl rfl (fun h26 => ?_) (fun h26 => ?_)
          · refine q_s (pc' := 138) (ls' := [vR 137, vI l1, vI l2, vI q21.1, vI (iw (l4 + 0)), vI l5, vI l6, vI q21.1]) (st' := [vI 0, vI l5]) (g' := q21.2) k191_137 rfl rfl ?_
            refine q_s (pc' := 139) (ls' := [vR 137, vI l1, vI l2, vI q21.1, vI (iw (l4 + 0)), vI l5, vI l6, vI q21.1]) (st' := [vI (iw (l5 + 0))]) (g' := q21.2) k191_138 rfl rfl ?_
            refine q_s (pc' := 141) (ls' := [vR 137, vI l1, vI l2, vI q21.1, vI (iw (l4 + 0)), vI (iw (l5 + 0)), vI l6, vI q21.1]) (st' := []) (g' := q21.2) k191_139 rfl rfl ?_
            refine q_s (pc' := 144) (ls' := [vR 137, vI l1, vI l2, vI q21.1, vI (iw (l4 + 0)), vI (iw (l5 + 0)), vI (iw (l6 + 1)), vI q21.1]) (st' := []) (g' := q21.2) k191_141 rfl rfl ?_
            refine q_s (pc' := 51) (ls' := [vR 137, vI l1, vI l2, vI q21.1, vI (iw (l4 + 0)), vI (iw (l5 + 0)), vI (iw (l6 + 1)), vI q21.1]) (st' := []) (g' := q21.2) k191_144 rfl rfl ?_
            rfl
          · refine q_s (pc' := 131) (ls' := [vR 137, vI l1, vI l2, vI q21.1, vI (iw (l4 + 0)), vI l5, vI l6, vI q21.1]) (st' := [vI 60, vI l5]) (g' := q21.2) k191_129 rfl rfl ?_
            refine q_s (pc' := 133) (ls' := [vR 137, vI l1, vI l2, vI q21.1, vI (iw (l4 + 0)), vI l5, vI l6, vI q21.1]) (st' := [vI q21.1, vI 60, vI l5]) (g' := q21.2) k191_131 rfl rfl ?_
            refine q_idiv (pc' := 134) rfl k191_133 rfl (fun _ => ?_)
            refine q_s (pc' := 138) (ls' := [vR 137, vI l1, vI l2, vI q21.1, vI (iw (l4 + 0)), vI l5, vI l6, vI q21.1]) (st' := [vI (iw ((60 : Int).tdiv q21.1)), vI l5]) (g' := q21.2) k191_134 rfl rfl ?_
            refine q_s (pc' := 139) (ls' := [vR 137, vI l1, vI l2, vI q21.1, vI (iw (l4 + 0)), vI l5, vI l6, vI q21.1]) (st' := [vI (iw (l5 + (iw ((60 : Int).tdiv q21.1))))]) (g' := q21.2) k191_138 rfl rfl ?_
            refine q_s (pc' := 141) (ls' := [vR 137, vI l1, vI l2, vI q21.1, vI (iw (l4 + 0)), vI (iw (l5 + (iw ((60 : Int).tdiv q21.1)))), vI l6, vI q21.1]) (st' := []) (g' := q21.2) k191_139 rfl rfl ?_
            refine q_s (pc' := 144) (ls' := [vR 137, vI l1, vI l2, vI q21.1, vI (iw (l4 + 0)), vI (iw (l5 + (iw ((60 : Int).tdiv q21.1)))), vI (iw (l6 + 1)), vI q21.1]) (st' := []) (g' := q21.2) k191_141 rfl rfl ?_
            refine q_s (pc' := 51) (ls' := [vR 137, vI l1, vI l2, vI q21.1, vI (iw (l4 + 0)), vI (iw (l5 + (iw ((60 : Int).tdiv q21.1)))), vI (iw (l6 + 1)), vI q21.1]) (st' := []) (g' := q21.2) k191_144 rfl rfl ?_
            rfl
      · refine q_s (pc' := 98) (ls' := [vR 137, vI l1, vI l2, vI l3, vI l4, vI l5, vI l6, vI q21.1]) (st' := [vI q21.1, vI l4]) (g' := q21.2) k191_96 rfl rfl ?_
        refine q_if (P := q21.1 ≠ 0) (t := 105) (pc' := 101) k191_98 Iff.rfl rfl rfl (fun h27 => ?_) (fun h27 => ?_)
        · refine q_s (pc' := 106) (ls' := [vR 137, vI l1, vI l2, vI l3, vI l4, vI l5, vI l6, vI q21.1]) (st' := [vI 0, vI l4]) (g' := q21.2) k191_105 rfl rfl ?_
          refine q_s (pc' := 107) (ls' := [vR 137, vI l1, vI l2, vI l3, vI l4, vI l5, vI l6, vI q21.1]) (st' := [vI (iw (l4 + 0))]) (g' := q21.2) k191_106 rfl rfl ?_
          refine q_s (pc' := 109) (ls' := [vR 137, vI l1, vI l2, vI l3, vI (iw (l4 + 0)), vI l5, vI l6, vI q21.1]) (st' := []) (g' := q21.2) k191_107 rfl rfl ?_
          refine q_s (pc' := 111) (ls' := [vR 137, vI l1, vI l2, vI l3, vI (iw (l4 + 0)), vI l5, vI l6, vI q21.1]) (st' := [vI q21.1]) (g' := q21.2) k191_109 rfl rfl ?_
          refine q_s (pc' := 112) (ls' := [vR 137, vI l1, vI l2, vI l3, vI (iw (l4 + 0)), vI l5, vI l6, vI q21.1]) (st' := [vI l3, vI q21.1]) (g' := q21.2) k191_111 rfl rfl ?_
          refine q_ic (P := q21.1 ≤ l3) (t := 120) (pc' := 115) k191_112 Iff.rfl rfl rfl (fun h28 => ?_) (fun h28 => ?_)
          · refine q_s (pc' := 121) (ls' := [vR 137, vI l1, vI l2, vI l3, vI (iw (l4 + 0)), vI l5, vI l6, vI q21.1]) (st' := [vI l3]) (g' := q21.2) k191_120 rfl rfl ?_
            refine q_s (pc' := 122) (ls' := [vR 137, vI l1, vI l2, vI l3, vI (iw (l4 + 0)), vI l5, vI l6, vI q21.1]) (st' := []) (g' := q21.2) k191_121 rfl rfl ?_
            refine q_s (pc' := 124) (ls' := [vR 137, vI l1, vI l2, vI l3, vI (iw (l4 + 0)), vI l5, vI l6, vI q21.1]) (st' := [vI l5]) (g' := q21.2) k191_122 rfl rfl ?_
            refine q_s (pc' := 126) (ls' := [vR 137, vI l1, vI l2, vI l3, vI (iw (l4 + 0)), vI l5, vI l6, vI q21.1]) (st' := [vI q21.1, vI l5]) (g' := q21.2) k191_124 rfl rfl ?_
            refine q_if (P := q21.1 ≤ 0) (t := 137) (pc' := 129) k191_126 Iff.rfl rfl rfl (fun h29 => ?_) (fun h29 => ?_)
            · refine q_s (pc' := 138) (ls' := [vR 137, vI l1, vI l2, vI l3, vI (iw (l4 + 0)), vI l5, vI l6, vI q21.1]) (st' := [vI 0, vI l5]) (g' := q21.2) k191_137 rfl rfl ?_
              refine q_s (pc' := 139) (ls' := [vR 137, vI l1, vI l2, vI l3, vI (iw (l4 + 0)), vI l5, vI l6, vI q21.1]) (st' := [vI (iw (l5 + 0))]) (g' := q21.2) k191_138 rfl rfl ?_
              refine q_s (pc' := 141) (ls' := [vR 137, vI l1, vI l2, vI l3, vI (iw (l4 + 0)), vI (iw (l5 + 0)), vI l6, vI q21.1]) (st' := []) (g' := q21.2) k191_139 rfl rfl ?_
              refine q_s (pc' := 144) (ls' := [vR 137, vI l1, vI l2, vI l3, vI (iw (l4 + 0)), vI (iw (l5 + 0)), vI (iw (l6 + 1)), vI q21.1]) (st' := []) (g' := q21.2) k191_141 rfl rfl ?_
              refine q_s (pc' := 51) (ls' := [vR 137, vI l1, vI l2, vI l3, vI (iw (l4 + 0)), vI (iw (l5 + 0)), vI (iw (l6 + 1)), vI q21.1]) (st' := []) (g' := q21.2) k191_144 rfl rfl ?_
              rfl
            · refine q_s (pc' := 131) (ls' := [vR 137, vI l1, vI l2, vI l3, vI (iw (l4 + 0)), vI l5, vI l6, vI q21.1]) (st' := [vI 60, vI l5]) (g' := q21.2) k191_129 rfl rfl ?_
              refine q_s (pc' := 133) (ls' := [vR 137, vI l1, vI l2, vI l3, vI (iw (l4 + 0)), vI l5, vI l6, vI q21.1]) (st' := [vI q21.1, vI 60, vI l5]) (g' := q21.2) k191_131 rfl rfl ?_
              refine q_idiv (pc' := 134) rfl k191_133 rfl (fun _ => ?_)
              refine q_s (pc' := 138) (ls' := [vR 137, vI l1, vI l2, vI l3, vI (iw (l4 + 0)), vI l5, vI l6, vI q21.1]) (st' := [vI (iw ((60 : Int).tdiv q21.1)), vI l5]) (g' := q21.2) k191_134 rfl rfl ?_
              refine q_s (pc' := 139) (ls' := [vR 137, vI l1, vI l2, vI l3, vI (iw (l4 + 0)), vI l5, vI l6, vI q21.1]) (st' := [vI (iw (l5 + (iw ((60 : Int).tdiv q21.1))))]) (g' := q21.2) k191_138 rfl rfl ?_
              refine q_s (pc' := 141) (ls' := [vR 137, vI l1, vI l2, vI l3, vI (iw (l4 + 0)), vI (iw (l5 + (iw ((60 : Int).tdiv q21.1)))), vI l6, vI q21.1]) (st' := []) (g' := q21.2) k191_139 rfl rfl ?_
              refine q_s (pc' := 144) (ls' := [vR 137, vI l1, vI l2, vI l3, vI (iw (l4 + 0)), vI (iw (l5 + (iw ((60 : Int).tdiv q21.1)))), vI (iw (l6 + 1)), vI q21.1]) (st' := []) (g' := q21.2) k191_141 rfl rfl ?_
              refine q_s (pc' := 51) (ls' := [vR 137, vI l1, vI l2, vI l3, vI (iw (l4 + 0)), vI (iw (l5 + (iw ((60 : Int).tdiv q21.1)))), vI (iw (l6 + 1)), vI q21.1]) (st' := []) (g' := q21.2) k191_144 rfl rfl ?_
              rfl
          · refine q_s (pc' := 117) (ls' := [vR 137, vI l1, vI l2, vI l3, vI (iw (l4 + 0)), vI l5, vI l6, vI q21.1]) (st' := [vI q21.1]) (g' := q21.2) k191_115 rfl rfl ?_
            refine q_s (pc' := 121) (ls' := [vR 137, vI l1, vI l2, vI l3, vI (iw (l4 + 0)), vI l5, vI l6, vI q21.1]) (st' := [vI q21.1]) (g' := q21.2) k191_117 rfl rfl ?_
            refine q_s (pc' := 122) (ls' := [vR 137, vI l1, vI l2, vI q21.1, vI (iw (l4 + 0)), vI l5, vI l6, vI q21.1]) (st' := []) (g' := q21.2) k191_121 rfl rfl ?_
            refine q_s (pc' := 124) (ls' := [vR 137, vI l1, vI l2, vI q21.1, vI (iw (l4 + 0)), vI l5, vI l6, vI q21.1]) (st' := [vI l5]) (g' := q21.2) k191_122 rfl rfl ?_
            refine q_s (pc' := 126) (ls' := [vR 137, vI l1, vI l2, vI q21.1, vI (iw (l4 + 0)), vI l5, vI l6, vI q21.1]) (st' := [vI q21.1, vI l5]) (g' := q21.2) k191_124 rfl rfl ?_
            refine q_if (P := q21.1 ≤ 0) (t := 137) (pc' := 129) k191_126 Iff.rfl rfl rfl (fun h30 => ?_) (fun h30 => ?_)
            · refine q_s (pc' := 138) (ls' := [vR 137, vI l1, vI l2, vI q21.1, vI (iw (l4 + 0)), vI l5, vI l6, vI q21.1]) (st' := [vI 0, vI l5]) (g' := q21.2) k191_137 rfl rfl ?_
              refine q_s (pc' := 139) (ls' := [vR 137, vI l1, vI l2, vI q21.1, vI (iw (l4 + 0)), vI l5, vI l6, vI q21.1]) (st' := [vI (iw (l5 + 0))]) (g' := q21.2) k191_138 rfl rfl ?_
              refine q_s (pc' := 141) (ls' := [vR 137, vI l1, vI l2, vI q21.1, vI (iw (l4 + 0)), vI (iw (l5 + 0)), vI l6, vI q21.1]) (st' := []) (g' := q21.2) k191_139 rfl rfl ?_
              refine q_s (pc' := 144) (ls' := [vR 137, vI l1, vI l2, vI q21.1, vI (iw (l4 + 0)), vI (iw (l5 + 0)), vI (iw (l6 + 1)), vI q21.1]) (st' := []) (g' := q21.2) k191_141 rfl rfl ?_
              refine q_s (pc' := 51) (ls' := [vR 137, vI l1, vI l2, vI q21.1, vI (iw (l4 + 0)), vI (iw (l5 + 0)), vI (iw (l6 + 1)), vI q21.1]) (st' := []) (g' := q21.2) k191_144 rfl rfl ?_
              rfl
            · refine q_s (pc' := 131) (ls' := [vR 137, vI l1, vI l2, vI q21.1, vI (iw (l4 + 0)), vI l5, vI l6, vI q21.1]) (st' := [vI 60, vI l5]) (g' := q21.2) k191_129 rfl rfl ?_
              refine q_s (pc' := 133) (ls' := [vR 137, vI l1, vI l2, vI q21.1, vI (iw (l4 + 0)), vI l5, vI l6, vI q21.1]) (st' := [vI q21.1, vI 60, vI l5]) (g' := q21.2) k191_131 rfl rfl ?_
              refine q_idiv (pc' := 134) rfl k191_133 rfl (fun _ => ?_)
              refine q_s (pc' := 138) (ls' := [vR 137, vI l1, vI l2, vI q21.1, vI (iw (l4 + 0)), vI l5, vI l6, vI q21.1]) (st' := [vI (iw ((60 : Int).tdiv q21.1)), vI l5]) (g' := q21.2) k191_134 rfl rfl ?_
              refine q_s (pc' := 139) (ls' := [vR 137, vI l1, vI l2, vI q21.1, vI (iw (l4 + 0)), vI l5, vI l6, vI q21.1]) (st' := [vI (iw (l5 + (iw ((60 : Int).tdiv q21.1))))]) (g' := q21.2) k191_138 rfl rfl ?_
              refine q_s (pc' := 141) (ls' := [vR 137, vI l1, vI l2, vI q21.1, vI (iw (l4 + 0)), vI (iw (l5 + (iw ((60 : Int).tdiv q21.1)))), vI l6, vI q21.1]) (st' := []) (g' := q21.2) k191_139 rfl rfl ?_
              refine q_s (pc' := 144) (ls' := [vR 137, vI l1, vI l2, vI q21.1, vI (iw (l4 + 0)), vI (iw (l5 + (iw ((60 : Int).tdiv q21.1)))), vI (iw (l6 + 1)), vI q21.1]) (st' := []) (g' := q21.2) k191_141 rfl rfl ?_
              refine q_s (pc' := 51) (ls' := [vR 137, vI l1, vI l2, vI q21.1, vI (iw (l4 + 0)), vI (iw (l5 + (iw ((60 : Int).tdiv q21.1)))), vI (iw (l6 + 1)), vI q21.1]) (st' := []) (g' := q21.2) k191_144 rfl rfl ?_
              rfl
        · refine q_s (pc' := 102) (ls' := [vR 137, vI l1, vI l2, vI l3, vI l4, vI l5, vI l6, vI q21.1]) (st' := [vI 1, vI l4]) (g' := q21.2) k191_101 rfl rfl ?_
          refine q_s (pc' := 106) (ls' := [vR 137, vI l1, vI l2, vI l3, vI l4, vI l5, vI l6, vI q21.1]) (st' := [vI 1, vI l4]) (g' := q21.2) k191_102 rfl rfl ?_
          refine q_s (pc' := 107) (ls' := [vR 137, vI l1, vI l2, vI l3, vI l4, vI l5, vI l6, vI q21.1]) (st' := [vI (iw (l4 + 1))]) (g' := q21.2) k191_106 rfl rfl ?_
          refine q_s (pc' := 109) (ls' := [vR 137, vI l1, vI l2, vI l3, vI (iw (l4 + 1)), vI l5, vI l6, vI q21.1]) (st' := []) (g' := q21.2) k191_107 rfl rfl ?_
          refine q_s (pc' := 111) (ls' := [vR 137, vI l1, vI l2, vI l3, vI (iw (l4 + 1)), vI l5, vI l6, vI q21.1]) (st' := [vI q21.1]) (g' := q21.2) k191_109 rfl rfl ?_
          refine q_s (pc' := 112) (ls' := [vR 137, vI l1, vI l2, vI l3, vI (iw (l4 + 1)), vI l5, vI l6, vI q21.1]) (st' := [vI l3, vI q21.1]) (g' := q21.2) k191_111 rfl rfl ?_
          refine q_ic (P := q21.1 ≤ l3) (t := 120) (pc' := 115) k191_112 Iff.rfl rfl rfl (fun h31 => ?_) (fun h31 => ?_)
          · refine q_s (pc' := 121) (ls' := [vR 137, vI l1, vI l2, vI l3, vI (iw (l4 + 1)), vI l5, vI l6, vI q21.1]) (st' := [vI l3]) (g' := q21.2) k191_120 rfl rfl ?_
            refine q_s (pc' := 122) (ls' := [vR 137, vI l1, vI l2, vI l3, vI (iw (l4 + 1)), vI l5, vI l6, vI q21.1]) (st' := []) (g' := q21.2) k191_121 rfl rfl ?_
            refine q_s (pc' := 124) (ls' := [vR 137, vI l1, vI l2, vI l3, vI (iw (l4 + 1)), vI l5, vI l6, vI q21.1]) (st' := [vI l5]) (g' := q21.2) k191_122 rfl rfl ?_
            refine q_s (pc' := 126) (ls' := [vR 137, vI l1, vI l2, vI l3, vI (iw (l4 + 1)), vI l5, vI l6, vI q21.1]) (st' := [vI q21.1, vI l5]) (g' := q21.2) k191_124 rfl rfl ?_
            refine q_if (P := q21.1 ≤ 0) (t := 137) (pc' := 129) k191_126 Iff.rfl rfl rfl (fun h32 => ?_) (fun h32 => ?_)
            · refine q_s (pc' := 138) (ls' := [vR 137, vI l1, vI l2, vI l3, vI (iw (l4 + 1)), vI l5, vI l6, vI q21.1]) (st' := [vI 0, vI l5]) (g' := q21.2) k191_137 rfl rfl ?_
              refine q_s (pc' := 139) (ls' := [vR 137, vI l1, vI l2, vI l3, vI (iw (l4 + 1)), vI l5, vI l6, vI q21.1]) (st' := [vI (iw (l5 + 0))]) (g' := q21.2) k191_138 rfl rfl ?_
              refine q_s (pc' := 141) (ls' := [vR 137, vI l1, vI l2, vI l3, vI (iw (l4 + 1)), vI (iw (l5 + 0)), vI l6, vI q21.1]) (st' := []) (g' := q21.2) k191_139 rfl rfl ?_
              refine q_s (pc' := 144) (ls' := [vR 137, vI l1, vI l2, vI l3, vI (iw (l4 + 1)), vI (iw (l5 + 0)), vI (iw (l6 + 1)), vI q21.1]) (st' := []) (g' := q21.2) k191_141 rfl rfl ?_
              refine q_s (pc' := 51) (ls' := [vR 137, vI l1, vI l2, vI l3, vI (iw (l4 + 1)), vI (iw (l5 + 0)), vI (iw (l6 + 1)), vI q21.1]) (st' := []) (g' := q21.2) k191_144 rfl rfl ?_
              rfl
            · refine q_s (pc' := 131) (ls' := [vR 137, vI l1, vI l2, vI l3, vI (iw (l4 + 1)), vI l5, vI l6, vI q21.1]) (st' := [vI 60, vI l5]) (g' := q21.2) k191_129 rfl rfl ?_
              refine q_s (pc' := 133) (ls' := [vR 137, vI l1, vI l2, vI l3, vI (iw (l4 + 1)), vI l5, vI l6, vI q21.1]) (st' := [vI q21.1, vI 60, vI l5]) (g' := q21.2) k191_131 rfl rfl ?_
              refine q_idiv (pc' := 134) rfl k191_133 rfl (fun _ => ?_)
              refine q_s (pc' := 138) (ls' := [vR 137, vI l1, vI l2, vI l3, vI (iw (l4 + 1)), vI l5, vI l6, vI q21.1]) (st' := [vI (iw ((60 : Int).tdiv q21.1)), vI l5]) (g' := q21.2) k191_134 rfl rfl ?_
              refine q_s (pc' := 139) (ls' := [vR 137, vI l1, vI l2, vI l3, vI (iw (l4 + 1)), vI l5, vI l6, vI q21.1]) (st' := [vI (iw (l5 + (iw ((60 : Int).tdiv q21.1))))]) (g' := q21.2) k191_138 rfl rfl ?_
              refine q_s (pc' := 141) (ls' := [vR 137, vI l1, vI l2, vI l3, vI (iw (l4 + 1)), vI (iw (l5 + (iw ((60 : Int).tdiv q21.1)))), vI l6, vI q21.1]) (st' := []) (g' := q21.2) k191_139 rfl rfl ?_
              refine q_s (pc' := 144) (ls' := [vR 137, vI l1, vI l2, vI l3, vI (iw (l4 + 1)), vI (iw (l5 + (iw ((60 : Int).tdiv q21.1)))), vI (iw (l6 + 1)), vI q21.1]) (st' := []) (g' := q21.2) k191_141 rfl rfl ?_
              refine q_s (pc' := 51) (ls' := [vR 137, vI l1, vI l2, vI l3, vI (iw (l4 + 1)), vI (iw (l5 + (iw ((60 : Int).tdiv q21.1)))), vI (iw (l6 + 1)), vI q21.1]) (st' := []) (g' := q21.2) k191_144 rfl rfl ?_
              rfl
          · refine q_s (pc' := 117) (ls' := [vR 137, vI l1, vI l2, vI l3, vI (iw (l4 + 1)), vI l5, vI l6, vI q21.1]) (st' := [vI q21.1]) (g' := q21.2) k191_115 rfl rfl ?_
            refine q_s (pc' := 121) (ls' := [vR 137, vI l1, vI l2, vI l3, vI (iw (l4 + 1)), vI l5, vI l6, vI q21.1]) (st' := [vI q21.1]) (g' := q21.2) k191_117 rfl rfl ?_
            refine q_s (pc' := 122) (ls' := [vR 137, vI l1, vI l2, vI q21.1, vI (iw (l4 + 1)), vI l5, vI l6, vI q21.1]) (st' := []) (g' := q21.2) k191_121 rfl rfl ?_
            refine q_s (pc' := 124) (ls' := [vR 137, vI l1, vI l2, vI q21.1, vI (iw (l4 + 1)), vI l5, vI l6, vI q21.1]) (st' := [vI l5]) (g' := q21.2) k191_122 rfl rfl ?_
            refine q_s (pc' := 126) (ls' := [vR 137, vI l1, vI l2, vI q21.1, vI (iw (l4 + 1)), vI l5, vI l6, vI q21.1]) (st' := [vI q21.1, vI l5]) (g' := q21.2) k191_124 rfl rfl ?_
            refine q_if (P := q21.1 ≤ 0) (t := 137) (pc' := 129) k191_126 Iff.rfl rfl rfl (fun h33 => ?_) (fun h33 => ?_)
            · refine q_s (pc' := 138) (ls' := [vR 137, vI l1, vI l2, vI q21.1, vI (iw (l4 + 1)), vI l5, vI l6, vI q21.1]) (st' := [vI 0, vI l5]) (g' := q21.2) k191_137 rfl rfl ?_
              refine q_s (pc' := 139) (ls' := [vR 137, vI l1, vI l2, vI q21.1, vI (iw (l4 + 1)), vI l5, vI l6, vI q21.1]) (st' := [vI (iw (l5 + 0))]) (g' := q21.2) k191_138 rfl rfl ?_
              refine q_s (pc' := 141) (ls' := [vR 137, vI l1, vI l2, vI q21.1, vI (iw (l4 + 1)), vI (iw (l5 + 0)), vI l6, vI q21.1]) (st' := []) (g' := q21.2) k191_139 rfl rfl ?_
              refine q_s (pc' := 144) (ls' := [vR 137, vI l1, vI l2, vI q21.1, vI (iw (l4 + 1)), vI (iw (l5 + 0)), vI (iw (l6 + 1)), vI q21.1]) (st' := []) (g' := q21.2) k191_141 rfl rfl ?_
              refine q_s (pc' := 51) (ls' := [vR 137, vI l1, vI l2, vI q21.1, vI (iw (l4 + 1)), vI (iw (l5 + 0)), vI (iw (l6 + 1)), vI q21.1]) (st' := []) (g' := q21.2) k191_144 rfl rfl ?_
              rfl
            · refine q_s (pc' := 131) (ls' := [vR 137, vI l1, vI l2, vI q21.1, vI (iw (l4 + 1)), vI l5, vI l6, vI q21.1]) (st' := [vI 60, vI l5]) (g' := q21.2) k191_129 rfl rfl ?_
              refine q_s (pc' := 133) (ls' := [vR 137, vI l1, vI l2, vI q21.1, vI (iw (l4 + 1)), vI l5, vI l6, vI q21.1]) (st' := [vI q21.1, vI 60, vI l5]) (g' := q21.2) k191_131 rfl rfl ?_
              refine q_idiv (pc' := 134) rfl k191_133 rfl (fun _ => ?_)
              refine q_s (pc' := 138) (ls' := [vR 137, vI l1, vI l2, vI q21.1, vI (iw (l4 + 1)), vI l5, vI l6, vI q21.1]) (st' := [vI (iw ((60 : Int).tdiv q21.1)), vI l5]) (g' := q21.2) k191_134 rfl rfl ?_
              refine q_s (pc' := 139) (ls' := [vR 137, vI l1, vI l2, vI q21.1, vI (iw (l4 + 1)), vI l5, vI l6, vI q21.1]) (st' := [vI (iw (l5 + (iw ((60 : Int).tdiv q21.1))))]) (g' := q21.2) k191_138 rfl rfl ?_
              refine q_s (pc' := 141) (ls' := [vR 137, vI l1, vI l2, vI q21.1, vI (iw (l4 + 1)), vI (iw (l5 + (iw ((60 : Int).tdiv q21.1)))), vI l6, vI q21.1]) (st' := []) (g' := q21.2) k191_139 rfl rfl ?_
              refine q_s (pc' := 144) (ls' := [vR 137, vI l1, vI l2, vI q21.1, vI (iw (l4 + 1)), vI (iw (l5 + (iw ((60 : Int).tdiv q21.1)))), vI (iw (l6 + 1)), vI q21.1]) (st' := []) (g' := q21.2) k191_141 rfl rfl ?_
              refine q_s (pc' := 51) (ls' := [vR 137, vI l1, vI l2, vI q21.1, vI (iw (l4 + 1)), vI (iw (l5 + (iw ((60 : Int).tdiv q21.1)))), vI (iw (l6 + 1)), vI q21.1]) (st' := []) (g' := q21.2) k191_144 rfl rfl ?_
              rfl
set_option maxHeartbeats 4000000 in
theorem jM_cheapest_eq (L : Nat) (a1 : Int) (a2 : Int) (g : AMem) : jM_cheapest L a1 a2 g = (jM_isEdge L a1 g).bind (fun q1 => if q1.1 = 0 then ((jM_bad L q1.2).bind (fun q3 => some (q3.1, q3.2))) else ((jM_in L a2 0 1 q1.2).bind (fun q4 => if q4.1 ≠ 0 then ((jM_isClear L a1 q4.2).bind (fun q6 => if q6.1 ≠ 0 then (jM_cheapest_46 L a1 a2 (-201) 1048576 0 vU q6.2) else ((jM_no L q6.2).bind (fun q8 => some (q8.1, q8.2))))) else ((jM_bad L q4.2).bind (fun q9 => some (q9.1, q9.2)))))) := by
  unfold jM_cheapest
  refine q_s (pc' := 1) (ls' := [vR 137, vI a1, vI a2, vU, vU, vU, vU]) (st' := [vR 137]) (g' := g) k192_0 rfl rfl ?_
  refine q_s (pc' := 2) (ls' := [vR 137, vI a1, vI a2, vU, vU, vU, vU]) (st' := [vI a1, vR 137]) (g' := g) k192_1 rfl rfl ?_
  refine q_callI (ls0 := [vR 137, vI a1]) (rest := []) (pc' := 5) rfl k192_2 rfl (hy4 rfl rfl rfl rfl) rfl rfl hq_146 rfl (fun q1 => ?_)
  refine q_if (P := q1.1 = 0) (t := 17) (pc' := 8) k192_5 Iff.rfl rfl rfl (fun h2 => ?_) (fun h2 => ?_)
  · refine q_s (pc' := 18) (ls' := [vR 137, vI a1, vI a2, vU, vU, vU, vU]) (st' := [vR 137]) (g' := q1.2) k192_17 rfl rfl ?_
    refine q_callI (ls0 := [vR 137]) (rest := []) (pc' := 21) rfl k192_18 rfl (hy4 rfl rfl rfl rfl) rfl rfl hq_135 rfl (fun q3 => ?_)
    exact q_e k192_21 rfl rfl rfl
  · refine q_s (pc' := 9) (ls' := [vR 137, vI a1, vI a2, vU, vU, vU, vU]) (st' := [vI a2]) (g' := q1.2) k192_8 rfl rfl ?_
    refine q_s (pc' := 10) (ls' := [vR 137, vI a1, vI a2, vU, vU, vU, vU]) (st' := [vI 0, vI a2]) (g' := q1.2) k192_9 rfl rfl ?_
    refine q_s (pc' := 11) (ls' := [vR 137, vI a1, vI a2, vU, vU, vU, vU]) (st' := [vI 1, vI 0, vI a2]) (g' := q1.2) k192_10 rfl rfl ?_
    refine q_callI (ls0 := [vI a2, vI 0, vI 1]) (rest := []) (pc' := 14) rfl k192_11 rfl (hy4 rfl rfl rfl rfl) rfl rfl hq_138 rfl (fun q4 => ?_)
    refine q_if (P := q4.1 ≠ 0) (t := 22) (pc' := 17) k192_14 Iff.rfl rfl rfl (fun h5 => ?_) (fun h5 => ?_)
    · refine q_s (pc' := 23) (ls' := [vR 137, vI a1, vI a2, vU, vU, vU, vU]) (st' := [vR 137]) (g' := q4.2) k192_22 rfl rfl ?_
      refine q_s (pc' := 24) (ls' := [vR 137, vI a1, vI a2, vU, vU, vU, vU]) (st' := [vI a1, vR 137]) (g' := q4.2) k192_23 rfl rfl ?_
      refine q_callI (ls0 := [vR 137, vI a1, vU, vU]) (rest := []) (pc' := 27) rfl k192_24 rfl (hy4 rfl rfl rfl rfl) rfl rfl hq_167 rfl (fun q6 => ?_)
      refine q_if (P := q6.1 ≠ 0) (t := 35) (pc' := 30) k192_27 Iff.rfl rfl rfl (fun h7 => ?_) (fun h7 => ?_)
      · refine q_s (pc' := 38) (ls' := [vR 137, vI a1, vI a2, vU, vU, vU, vU]) (st' := [vI (-201)]) (g' := q6.2) k192_35 rfl rfl ?_
        refine q_s (pc' := 39) (ls' := [vR 137, vI a1, vI a2, vI (-201), vU, vU, vU]) (st' := []) (g' := q6.2) k192_38 rfl rfl ?_
        refine q_s (pc' := 41) (ls' := [vR 137, vI a1, vI a2, vI (-201), vU, vU, vU]) (st' := [vI 1048576]) (g' := q6.2) k192_39 rfl rfl ?_
        refine q_s (pc' := 43) (ls' := [vR 137, vI a1, vI a2, vI (-201), vI 1048576, vU, vU]) (st' := []) (g' := q6.2) k192_41 rfl rfl ?_
        refine q_s (pc' := 44) (ls' := [vR 137, vI a1, vI a2, vI (-201), vI 1048576, vU, vU]) (st' := [vI 0]) (g' := q6.2) k192_43 rfl rfl ?_
        refine q_s (pc' := 46) (ls' := [vR 137, vI a1, vI a2, vI (-201), vI 1048576, vI 0, vU]) (st' := []) (g' := q6.2) k192_44 rfl rfl ?_
        rfl
      · refine q_s (pc' := 31) (ls' := [vR 137, vI a1, vI a2, vU, vU, vU, vU]) (st' := [vR 137]) (g' := q6.2) k192_30 rfl rfl ?_
        refine q_callI (ls0 := [vR 137]) (rest := []) (pc' := 34) rfl k192_31 rfl (hy4 rfl rfl rfl rfl) rfl rfl hq_136 rfl (fun q8 => ?_)
        exact q_e k192_34 rfl rfl rfl
    · refine q_s (pc' := 18) (ls' := [vR 137, vI a1, vI a2, vU, vU, vU, vU]) (st' := [vR 137]) (g' := q4.2) k192_17 rfl rfl ?_
      refine q_callI (ls0 := [vR 137]) (rest := []) (pc' := 21) rfl k192_18 rfl (hy4 rfl rfl rfl rfl) rfl rfl hq_135 rfl (fun q9 => ?_)
      exact q_e k192_21 rfl rfl rfl
set_option maxHeartbeats 4000000 in
theorem jM_cheapest_46_eq (L : Nat) (l1 : Int) (l2 : Int) (l3 : Int) (l4 : Int) (l5 : Int) (w6 : AVal) (g : AMem) : jM_cheapest_46 L l1 l2 l3 l4 l5 w6 g = if 5 ≤ l5 then (if l2 ≠ 0 then (some (l4, g)) else (some (l3, g))) else ((jM_costBy L l1 l5 g).bind (fun q12 => if l4 ≤ q12.1 then (if l4 ≤ q12.1 then (jM_cheapest_46 L l1 l2 l3 l4 (iw (l5 + 1)) (vI q12.1) q12.2) else (jM_cheapest_46 L l1 l2 l3 q12.1 (iw (l5 + 1)) (vI q12.1) q12.2)) else (if l4 ≤ q12.1 then (jM_cheapest_46 L l1 l2 l5 l4 (iw (l5 + 1)) (vI q12.1) q12.2) else (jM_cheapest_46 L l1 l2 l5 q12.1 (iw (l5 + 1)) (vI q12.1) q12.2)))) := by
  unfold jM_cheapest_46
  refine q_s (pc' := 48) (ls' := [vR 137, vI l1, vI l2, vI l3, vI l4, vI l5, w6]) (st' := [vI l5]) (g' := g) k192_46 rfl rfl ?_
  refine q_s (pc' := 49) (ls' := [vR 137, vI l1, vI l2, vI l3, vI l4, vI l5, w6]) (st' := [vI 5, vI l5]) (g' := g) k192_48 rfl rfl ?_
  refine q_ic (P := 5 ≤ l5) (t := 97) (pc' := 52) k192_49 Iff.rfl rfl rfl (fun h10 => ?_) (fun h10 => ?_)
  · refine q_s (pc' := 98) (ls' := [vR 137, vI l1, vI l2, vI l3, vI l4, vI l5, w6]) (st' := [vI l2]) (g' := g) k192_97 rfl rfl ?_
    refine q_if (P := l2 ≠ 0) (t := 105) (pc' := 101) k192_98 Iff.rfl rfl rfl (fun h11 => ?_) (fun h11 => ?_)
    · refine q_s (pc' := 107) (ls' := [vR 137, vI l1, vI l2, vI l3, vI l4, vI l5, w6]) (st' := [vI l4]) (g' := g) k192_105 rfl rfl ?_
      exact q_e k192_107 rfl rfl rfl
    · refine q_s (pc' := 102) (ls' := [vR 137, vI l1, vI l2, vI l3, vI l4, vI l5, w6]) (st' := [vI l3]) (g' := g) k192_101 rfl rfl ?_
      refine q_s (pc' := 107) (ls' := [vR 137, vI l1, vI l2, vI l3, vI l4, vI l5, w6]) (st' := [vI l3]) (g' := g) k192_102 rfl rfl ?_
      exact q_e k192_107 rfl rfl rfl
  · refine q_s (pc' := 53) (ls' := [vR 137, vI l1, vI l2, vI l3, vI l4, vI l5, w6]) (st' := [vR 137]) (g' := g) k192_52 rfl rfl ?_
    refine q_s (pc' := 54) (ls' := [vR 137, vI l1, vI l2, vI l3, vI l4, vI l5, w6]) (st' := [vI l1, vR 137]) (g' := g) k192_53 rfl rfl ?_
    refine q_s (pc' := 56) (ls' := [vR 137, vI l1, vI l2, vI l3, vI l4, vI l5, w6]) (st' := [vI l5, vI l1, vR 137]) (g' := g) k192_54 rfl rfl ?_
    refine q_callI (ls0 := [vR 137, vI l1, vI l5, vU, vU, vU]) (rest := []) (pc' := 59) rfl k192_56 rfl (hy4 rfl rfl rfl rfl) rfl rfl hq_184 rfl (fun q12 => ?_)
    refine q_s (pc' := 61) (ls' := [vR 137, vI l1, vI l2, vI l3, vI l4, vI l5, vI q12.1]) (st' := []) (g' := q12.2) k192_59 rfl rfl ?_
    refine q_s (pc' := 63) (ls' := [vR 137, vI l1, vI l2, vI l3, vI l4, vI l5, vI q12.1]) (st' := [vI q12.1]) (g' := q12.2) k192_61 rfl rfl ?_
    refine q_s (pc' := 65) (ls' := [vR 137, vI l1, vI l2, vI l3, vI l4, vI l5, vI q12.1]) (st' := [vI l4, vI q12.1]) (g' := q12.2) k192_63 rfl rfl ?_
    refine q_ic (P := l4 ≤ q12.1) (t := 73) (pc' := 68) k192_65 Iff.rfl rfl rfl (fun h13 => ?_) (fun h13 => ?_)
    · refine q_s (pc' := 74) (ls' := [vR 137, vI l1, vI l2, vI l3, vI l4, vI l5, vI q12.1]) (st' := [vI l3]) (g' := q12.2) k192_73 rfl rfl ?_
      refine q_s (pc' := 75) (ls' := [vR 137, vI l1, vI l2, vI l3, vI l4, vI l5, vI q12.1]) (st' := []) (g' := q12.2) k192_74 rfl rfl ?_
      refine q_s (pc' := 77) (ls' := [vR 137, vI l1, vI l2, vI l3, vI l4, vI l5, vI q12.1]) (st' := [vI q12.1]) (g' := q12.2) k192_75 rfl rfl ?_
      refine q_s (pc' := 79) (ls' := [vR 137, vI l1, vI l2, vI l3, vI l4, vI l5, vI q12.1]) (st' := [vI l4, vI q12.1]) (g' := q12.2) k192_77 rfl rfl ?_
      refine q_ic (P := l4 ≤ q12.1) (t := 87) (pc' := 82) k192_79 Iff.rfl rfl rfl (fun h14 => ?_) (fun h14 => ?_)
      · refine q_s (pc' := 89) (ls' := [vR 137, vI l1, vI l2, vI l3, vI l4, vI l5, vI q12.1]) (st' := [vI l4]) (g' := q12.2) k192_87 rfl rfl ?_
        refine q_s (pc' := 91) (ls' := [vR 137, vI l1, vI l2, vI l3, vI l4, vI l5, vI q12.1]) (st' := []) (g' := q12.2) k192_89 rfl rfl ?_
        refine q_s (pc' := 94) (ls' := [vR 137, vI l1, vI l2, vI l3, vI l4, vI (iw (l5 + 1)), vI q12.1]) (st' := []) (g' := q12.2) k192_91 rfl rfl ?_
        refine q_s (pc' := 46) (ls' := [vR 137, vI l1, vI l2, vI l3, vI l4, vI (iw (l5 + 1)), vI q12.1]) (st' := []) (g' := q12.2) k192_94 rfl rfl ?_
        rfl
      · refine q_s (pc' := 84) (ls' := [vR 137, vI l1, vI l2, vI l3, vI l4, vI l5, vI q12.1]) (st' := [vI q12.1]) (g' := q12.2) k192_82 rfl rfl ?_
        refine q_s (pc' := 89) (ls' := [vR 137, vI l1, vI l2, vI l3, vI l4, vI l5, vI q12.1]) (st' := [vI q12.1]) (g' := q12.2) k192_84 rfl rfl ?_
        refine q_s (pc' := 91) (ls' := [vR 137, vI l1, vI l2, vI l3, vI q12.1, vI l5, vI q12.1]) (st' := []) (g' := q12.2) k192_89 rfl rfl ?_
        refine q_s (pc' := 94) (ls' := [vR 137, vI l1, vI l2, vI l3, vI q12.1, vI (iw (l5 + 1)), vI q12.1]) (st' := []) (g' := q12.2) k192_91 rfl rfl ?_
        refine q_s (pc' := 46) (ls' := [vR 137, vI l1, vI l2, vI l3, vI q12.1, vI (iw (l5 + 1)), vI q12.1]) (st' := []) (g' := q12.2) k192_94 rfl rfl ?_
        rfl
    · refine q_s (pc' := 70) (ls' := [vR 137, vI l1, vI l2, vI l3, vI l4, vI l5, vI q12.1]) (st' := [vI l5]) (g' := q12.2) k192_68 rfl rfl ?_
      refine q_s (pc' := 74) (ls' := [vR 137, vI l1, vI l2, vI l3, vI l4, vI l5, vI q12.1]) (st' := [vI l5]) (g' := q12.2) k192_70 rfl rfl ?_
      refine q_s (pc' := 75) (ls' := [vR 137, vI l1, vI l2, vI l5, vI l4, vI l5, vI q12.1]) (st' := []) (g' := q12.2) k192_74 rfl rfl ?_
      refine q_s (pc' := 77) (ls' := [vR 137, vI l1, vI l2, vI l5, vI l4, vI l5, vI q12.1]) (st' := [vI q12.1]) (g' := q12.2) k192_75 rfl rfl ?_
      refine q_s (pc' := 79) (ls' := [vR 137, vI l1, vI l2, vI l5, vI l4, vI l5, vI q12.1]) (st' := [vI l4, vI q12.1]) (g' := q12.2) k192_77 rfl rfl ?_
      refine q_ic (P := l4 ≤ q12.1) (t := 87) (pc' := 82) k192_79 Iff.rfl rfl rfl (fun h15 => ?_) (fun h15 => ?_)
      · refine q_s (pc' := 89) (ls' := [vR 137, vI l1, vI l2, vI l5, vI l4, vI l5, vI q12.1]) (st' := [vI l4]) (g' := q12.2) k192_87 rfl rfl ?_
        refine q_s (pc' := 91) (ls' := [vR 137, vI l1, vI l2, vI l5, vI l4, vI l5, vI q12.1]) (st' := []) (g' := q12.2) k192_89 rfl rfl ?_
        refine q_s (pc' := 94) (ls' := [vR 137, vI l1, vI l2, vI l5, vI l4, vI (iw (l5 + 1)), vI q12.1]) (st' := []) (g' := q12.2) k192_91 rfl rfl ?_
        refine q_s (pc' := 46) (ls' := [vR 137, vI l1, vI l2, vI l5, vI l4, vI (iw (l5 + 1)), vI q12.1]) (st' := []) (g' := q12.2) k192_94 rfl rfl ?_
        rfl
      · refine q_s (pc' := 84) (ls' := [vR 137, vI l1, vI l2, vI l5, vI l4, vI l5, vI q12.1]) (st' := [vI q12.1]) (g' := q12.2) k192_82 rfl rfl ?_
        refine q_s (pc' := 89) (ls' := [vR 137, vI l1, vI l2, vI l5, vI l4, vI l5, vI q12.1]) (st' := [vI q12.1]) (g' := q12.2) k192_84 rfl rfl ?_
        refine q_s (pc' := 91) (ls' := [vR 137, vI l1, vI l2, vI l5, vI q12.1, vI l5, vI q12.1]) (st' := []) (g' := q12.2) k192_89 rfl rfl ?_
        refine q_s (pc' := 94) (ls' := [vR 137, vI l1, vI l2, vI l5, vI q12.1, vI (iw (l5 + 1)), vI q12.1]) (st' := []) (g' := q12.2) k192_91 rfl rfl ?_
        refine q_s (pc' := 46) (ls' := [vR 137, vI l1, vI l2, vI l5, vI q12.1, vI (iw (l5 + 1)), vI q12.1]) (st' := []) (g' := q12.2) k192_94 rfl rfl ?_
        rfl
set_option maxHeartbeats 4000000 in
theorem jM_free_eq (L : Nat) (a1 : Int) (a2 : Int) (g : AMem) : jM_free L a1 a2 g = (jM_isEdge L a1 g).bind (fun q1 => if q1.1 = 0 then ((jM_bad L q1.2).bind (fun q3 => some (q3.1, q3.2))) else ((jM_isWidth L a2 q1.2).bind (fun q4 => if q4.1 ≠ 0 then (jM_free_22 L a1 a2 0 vU vU q4.2) else ((jM_bad L q4.2).bind (fun q6 => some (q6.1, q6.2)))))) := by
  unfold jM_free
  refine q_s (pc' := 1) (ls' := [vR 137, vI a1, vI a2, vU, vU, vU]) (st' := [vR 137]) (g' := g) k193_0 rfl rfl ?_
  refine q_s (pc' := 2) (ls' := [vR 137, vI a1, vI a2, vU, vU, vU]) (st' := [vI a1, vR 137]) (g' := g) k193_1 rfl rfl ?_
  refine q_callI (ls0 := [vR 137, vI a1]) (rest := []) (pc' := 5) rfl k193_2 rfl (hy4 rfl rfl rfl rfl) rfl rfl hq_146 rfl (fun q1 => ?_)
  refine q_if (P := q1.1 = 0) (t := 15) (pc' := 8) k193_5 Iff.rfl rfl rfl (fun h2 => ?_) (fun h2 => ?_)
  · refine q_s (pc' := 16) (ls' := [vR 137, vI a1, vI a2, vU, vU, vU]) (st' := [vR 137]) (g' := q1.2) k193_15 rfl rfl ?_
    refine q_callI (ls0 := [vR 137]) (rest := []) (pc' := 19) rfl k193_16 rfl (hy4 rfl rfl rfl rfl) rfl rfl hq_135 rfl (fun q3 => ?_)
    exact q_e k193_19 rfl rfl rfl
  · refine q_s (pc' := 9) (ls' := [vR 137, vI a1, vI a2, vU, vU, vU]) (st' := [vI a2]) (g' := q1.2) k193_8 rfl rfl ?_
    refine q_callI (ls0 := [vI a2]) (rest := []) (pc' := 12) rfl k193_9 rfl (hy4 rfl rfl rfl rfl) rfl rfl hq_141 rfl (fun q4 => ?_)
    refine q_if (P := q4.1 ≠ 0) (t := 20) (pc' := 15) k193_12 Iff.rfl rfl rfl (fun h5 => ?_) (fun h5 => ?_)
    · refine q_s (pc' := 21) (ls' := [vR 137, vI a1, vI a2, vU, vU, vU]) (st' := [vI 0]) (g' := q4.2) k193_20 rfl rfl ?_
      refine q_s (pc' := 22) (ls' := [vR 137, vI a1, vI a2, vI 0, vU, vU]) (st' := []) (g' := q4.2) k193_21 rfl rfl ?_
      rfl
    · refine q_s (pc' := 16) (ls' := [vR 137, vI a1, vI a2, vU, vU, vU]) (st' := [vR 137]) (g' := q4.2) k193_15 rfl rfl ?_
      refine q_callI (ls0 := [vR 137]) (rest := []) (pc' := 19) rfl k193_16 rfl (hy4 rfl rfl rfl rfl) rfl rfl hq_135 rfl (fun q6 => ?_)
      exact q_e k193_19 rfl rfl rfl
set_option maxHeartbeats 4000000 in
theorem jM_free_22_eq (L : Nat) (l1 : Int) (l2 : Int) (l3 : Int) (w4 : AVal) (w5 : AVal) (g : AMem) : jM_free_22 L l1 l2 l3 w4 w5 g = if 32 ≤ l3 then (some ((-201), g)) else (jM_free_34 L l1 l2 l3 1 0 g) := by
  unfold jM_free_22
  refine q_s (pc' := 23) (ls' := [vR 137, vI l1, vI l2, vI l3, w4, w5]) (st' := [vI l3]) (g' := g) k193_22 rfl rfl ?_
  refine q_s (pc' := 25) (ls' := [vR 137, vI l1, vI l2, vI l3, w4, w5]) (st' := [vI 32, vI l3]) (g' := g) k193_23 rfl rfl ?_
  refine q_ic (P := 32 ≤ l3) (t := 129) (pc' := 28) k193_25 Iff.rfl rfl rfl (fun h7 => ?_) (fun h7 => ?_)
  · refine q_s (pc' := 132) (ls' := [vR 137, vI l1, vI l2, vI l3, w4, w5]) (st' := [vI (-201)]) (g' := g) k193_129 rfl rfl ?_
    exact q_e k193_132 rfl rfl rfl
  · refine q_s (pc' := 29) (ls' := [vR 137, vI l1, vI l2, vI l3, w4, w5]) (st' := [vI 1]) (g' := g) k193_28 rfl rfl ?_
    refine q_s (pc' := 31) (ls' := [vR 137, vI l1, vI l2, vI l3, vI 1, w5]) (st' := []) (g' := g) k193_29 rfl rfl ?_
    refine q_s (pc' := 32) (ls' := [vR 137, vI l1, vI l2, vI l3, vI 1, w5]) (st' := [vI 0]) (g' := g) k193_31 rfl rfl ?_
    refine q_s (pc' := 34) (ls' := [vR 137, vI l1, vI l2, vI l3, vI 1, vI 0]) (st' := []) (g' := g) k193_32 rfl rfl ?_
    rfl
set_option maxHeartbeats 4000000 in
theorem jM_free_34_eq (L : Nat) (l1 : Int) (l2 : Int) (l3 : Int) (l4 : Int) (l5 : Int) (g : AMem) : jM_free_34 L l1 l2 l3 l4 l5 g = (jM_manyOf L l1 g).bind (fun q8 => if q8.1 ≤ l5 then (if l4 = 0 then (jM_free_22 L l1 l2 (iw (l3 + l2)) (vI l4) (vI l5) q8.2) else (some (iw ((iw (10 * l3)) + l2), q8.2))) else (if l4 = 0 then (jM_free_34 L l1 l2 l3 0 (iw (l5 + 1)) q8.2) else ((jM_parameterOf L l1 l5 q8.2).bind (fun q12 => (jM_meet L q12.1 (iw ((iw (10 * l3)) + l2)) q12.2).bind (fun q13 => if q13.1 ≠ 0 then (jM_free_34 L l1 l2 l3 0 (iw (l5 + 1)) q13.2) else ((jM_givenOf L l1 l5 q13.2).bind (fun q15 => if q15.1 < 0 then (jM_free_34 L l1 l2 l3 1 (iw (l5 + 1)) q15.2) else ((jM_givenOf L l1 l5 q15.2).bind (fun q17 => (jM_meet L q17.1 (iw ((iw (10 * l3)) + l2)) q17.2).bind (fun q18 => if q18.1 ≠ 0 then (jM_free_34 L l1 l2 l3 0 (iw (l5 + 1)) q18.2) else (jM_free_34 L l1 l2 l3 1 (iw (l5 + 1)) q18.2))))))))))) := by
  unfold jM_free_34
  refine q_s (pc' := 36) (ls' := [vR 137, vI l1, vI l2, vI l3, vI l4, vI l5]) (st' := [vI l5]) (g' := g) k193_34 rfl rfl ?_
  refine q_s (pc' := 37) (ls' := [vR 137, vI l1, vI l2, vI l3, vI l4, vI l5]) (st' := [vR 137, vI l5]) (g' := g) k193_36 rfl rfl ?_
  refine q_s (pc' := 38) (ls' := [vR 137, vI l1, vI l2, vI l3, vI l4, vI l5]) (st' := [vI l1, vR 137, vI l5]) (g' := g) k193_37 rfl rfl ?_
  refine q_callI (ls0 := [vR 137, vI l1]) (rest := [vI l5]) (pc' := 41) rfl k193_38 rfl (hy4 rfl rfl rfl rfl) rfl rfl hq_148 rfl (fun q8 => ?_)
  refine q_ic (P := q8.1 ≤ l5) (t := 110) (pc' := 44) k193_41 Iff.rfl rfl rfl (fun h9 => ?_) (fun h9 => ?_)
  · refine q_s (pc' := 112) (ls' := [vR 137, vI l1, vI l2, vI l3, vI l4, vI l5]) (st' := [vI l4]) (g' := q8.2) k193_110 rfl rfl ?_
    refine q_if (P := l4 = 0) (t := 122) (pc' := 115) k193_112 Iff.rfl rfl rfl (fun h10 => ?_) (fun h10 => ?_)
    · refine q_s (pc' := 123) (ls' := [vR 137, vI l1, vI l2, vI l3, vI l4, vI l5]) (st' := [vI l3]) (g' := q8.2) k193_122 rfl rfl ?_
      refine q_s (pc' := 124) (ls' := [vR 137, vI l1, vI l2, vI l3, vI l4, vI l5]) (st' := [vI l2, vI l3]) (g' := q8.2) k193_123 rfl rfl ?_
      refine q_s (pc' := 125) (ls' := [vR 137, vI l1, vI l2, vI l3, vI l4, vI l5]) (st' := [vI (iw (l3 + l2))]) (g' := q8.2) k193_124 rfl rfl ?_
      refine q_s (pc' := 126) (ls' := [vR 137, vI l1, vI l2, vI (iw (l3 + l2)), vI l4, vI l5]) (st' := []) (g' := q8.2) k193_125 rfl rfl ?_
      refine q_s (pc' := 22) (ls' := [vR 137, vI l1, vI l2, vI (iw (l3 + l2)), vI l4, vI l5]) (st' := []) (g' := q8.2) k193_126 rfl rfl ?_
      rfl
    · refine q_s (pc' := 117) (ls' := [vR 137, vI l1, vI l2, vI l3, vI l4, vI l5]) (st' := [vI 10]) (g' := q8.2) k193_115 rfl rfl ?_
      refine q_s (pc' := 118) (ls' := [vR 137, vI l1, vI l2, vI l3, vI l4, vI l5]) (st' := [vI l3, vI 10]) (g' := q8.2) k193_117 rfl rfl ?_
      refine q_s (pc' := 119) (ls' := [vR 137, vI l1, vI l2, vI l3, vI l4, vI l5]) (st' := [vI (iw (10 * l3))]) (g' := q8.2) k193_118 rfl rfl ?_
      refine q_s (pc' := 120) (ls' := [vR 137, vI l1, vI l2, vI l3, vI l4, vI l5]) (st' := [vI l2, vI (iw (10 * l3))]) (g' := q8.2) k193_119 rfl rfl ?_
      refine q_s (pc' := 121) (ls' := [vR 137, vI l1, vI l2, vI l3, vI l4, vI l5]) (st' := [vI (iw ((iw (10 * l3)) + l2))]) (g' := q8.2) k193_120 rfl rfl ?_
      exact q_e k193_121 rfl rfl rfl
  · refine q_s (pc' := 46) (ls' := [vR 137, vI l1, vI l2, vI l3, vI l4, vI l5]) (st' := [vI l4]) (g' := q8.2) k193_44 rfl rfl ?_
    refine q_if (P := l4 = 0) (t := 101) (pc' := 49) k193_46 Iff.rfl rfl rfl (fun h11 => ?_) (fun h11 => ?_)
    · refine q_s (pc' := 102) (ls' := [vR 137, vI l1, vI l2, vI l3, vI l4, vI l5]) (st' := [vI 0]) (g' := q8.2) k193_101 rfl rfl ?_
      refine q_s (pc' := 104) (ls' := [vR 137, vI l1, vI l2, vI l3, vI 0, vI l5]) (st' := []) (g' := q8.2) k193_102 rfl rfl ?_
      refine q_s (pc' := 107) (ls' := [vR 137, vI l1, vI l2, vI l3, vI 0, vI (iw (l5 + 1))]) (st' := []) (g' := q8.2) k193_104 rfl rfl ?_
      refine q_s (pc' := 34) (ls' := [vR 137, vI l1, vI l2, vI l3, vI 0, vI (iw (l5 + 1))]) (st' := []) (g' := q8.2) k193_107 rfl rfl ?_
      rfl
    · refine q_s (pc' := 50) (ls' := [vR 137, vI l1, vI l2, vI l3, vI l4, vI l5]) (st' := [vR 137]) (g' := q8.2) k193_49 rfl rfl ?_
      refine q_s (pc' := 51) (ls' := [vR 137, vI l1, vI l2, vI l3, vI l4, vI l5]) (st' := [vI l1, vR 137]) (g' := q8.2) k193_50 rfl rfl ?_
      refine q_s (pc' := 53) (ls' := [vR 137, vI l1, vI l2, vI l3, vI l4, vI l5]) (st' := [vI l5, vI l1, vR 137]) (g' := q8.2) k193_51 rfl rfl ?_
      refine q_callI (ls0 := [vR 137, vI l1, vI l5]) (rest := []) (pc' := 56) rfl k193_53 rfl (hy4 rfl rfl rfl rfl) rfl rfl hq_147 rfl (fun q12 => ?_)
      refine q_s (pc' := 58) (ls' := [vR 137, vI l1, vI l2, vI l3, vI l4, vI l5]) (st' := [vI 10, vI q12.1]) (g' := q12.2) k193_56 rfl rfl ?_
      refine q_s (pc' := 59) (ls' := [vR 137, vI l1, vI l2, vI l3, vI l4, vI l5]) (st' := [vI l3, vI 10, vI q12.1]) (g' := q12.2) k193_58 rfl rfl ?_
      refine q_s (pc' := 60) (ls' := [vR 137, vI l1, vI l2, vI l3, vI l4, vI l5]) (st' := [vI (iw (10 * l3)), vI q12.1]) (g' := q12.2) k193_59 rfl rfl ?_
      refine q_s (pc' := 61) (ls' := [vR 137, vI l1, vI l2, vI l3, vI l4, vI l5]) (st' := [vI l2, vI (iw (10 * l3)), vI q12.1]) (g' := q12.2) k193_60 rfl rfl ?_
      refine q_s (pc' := 62) (ls' := [vR 137, vI l1, vI l2, vI l3, vI l4, vI l5]) (st' := [vI (iw ((iw (10 * l3)) + l2)), vI q12.1]) (g' := q12.2) k193_61 rfl rfl ?_
      refine q_callI (ls0 := [vI q12.1, vI (iw ((iw (10 * l3)) + l2))]) (rest := []) (pc' := 65) rfl k193_62 rfl (hy4 rfl rfl rfl rfl) rfl rfl hq_143 rfl (fun q13 => ?_)
      refine q_if (P := q13.1 ≠ 0) (t := 101) (pc' := 68) k193_65 Iff.rfl rfl rfl (fun h14 => ?_) (fun h14 => ?_)
      · refine q_s (pc' := 102) (ls' := [vR 137, vI l1, vI l2, vI l3, vI l4, vI l5]) (st' := [vI 0]) (g' := q13.2) k193_101 rfl rfl ?_
        refine q_s (pc' := 104) (ls' := [vR 137, vI l1, vI l2, vI l3, vI 0, vI l5]) (st' := []) (g' := q13.2) k193_102 rfl rfl ?_
        refine q_s (pc' := 107) (ls' := [vR 137, vI l1, vI l2, vI l3, vI 0, vI (iw (l5 + 1))]) (st' := []) (g' := q13.2) k193_104 rfl rfl ?_
        refine q_s (pc' := 34) (ls' := [vR 137, vI l1, vI l2, vI l3, vI 0, vI (iw (l5 + 1))]) (st' := []) (g' := q13.2) k193_107 rfl rfl ?_
        rfl
      · refine q_s (pc' := 69) (ls' := [vR 137, vI l1, vI l2, vI l3, vI l4, vI l5]) (st' := [vR 137]) (g' := q13.2) k193_68 rfl rfl ?_
        refine q_s (pc' := 70) (ls' := [vR 137, vI l1, vI l2, vI l3, vI l4, vI l5]) (st' := [vI l1, vR 137]) (g' := q13.2) k193_69 rfl rfl ?_
        refine q_s (pc' := 72) (ls' := [vR 137, vI l1, vI l2, vI l3, vI l4, vI l5]) (st' := [vI l5, vI l1, vR 137]) (g' := q13.2) k193_70 rfl rfl ?_
        refine q_callI (ls0 := [vR 137, vI l1, vI l5]) (rest := []) (pc' := 75) rfl k193_72 rfl (hy4 rfl rfl rfl rfl) rfl rfl hq_149 rfl (fun q15 => ?_)
        refine q_if (P := q15.1 < 0) (t := 97) (pc' := 78) k193_75 Iff.rfl rfl rfl (fun h16 => ?_) (fun h16 => ?_)
        · refine q_s (pc' := 98) (ls' := [vR 137, vI l1, vI l2, vI l3, vI l4, vI l5]) (st' := [vI 1]) (g' := q15.2) k193_97 rfl rfl ?_
          refine q_s (pc' := 102) (ls' := [vR 137, vI l1, vI l2, vI l3, vI l4, vI l5]) (st' := [vI 1]) (g' := q15.2) k193_98 rfl rfl ?_
          refine q_s (pc' := 104) (ls' := [vR 137, vI l1, vI l2, vI l3, vI 1, vI l5]) (st' := []) (g' := q15.2) k193_102 rfl rfl ?_
          refine q_s (pc' := 107) (ls' := [vR 137, vI l1, vI l2, vI l3, vI 1, vI (iw (l5 + 1))]) (st' := []) (g' := q15.2) k193_104 rfl rfl ?_
          refine q_s (pc' := 34) (ls' := [vR 137, vI l1, vI l2, vI l3, vI 1, vI (iw (l5 + 1))]) (st' := []) (g' := q15.2) k193_107 rfl rfl ?_
          rfl
        · refine q_s (pc' := 79) (ls' := [vR 137, vI l1, vI l2, vI l3, vI l4, vI l5]) (st' := [vR 137]) (g' := q15.2) k193_78 rfl rfl ?_
          refine q_s (pc' := 80) (ls' := [vR 137, vI l1, vI l2, vI l3, vI l4, vI l5]) (st' := [vI l1, vR 137]) (g' := q15.2) k193_79 rfl rfl ?_
          refine q_s (pc' := 82) (ls' := [vR 137, vI l1, vI l2, vI l3, vI l4, vI l5]) (st' := [vI l5, vI l1, vR 137]) (g' := q15.2) k193_80 rfl rfl ?_
          refine q_callI (ls0 := [vR 137, vI l1, vI l5]) (rest := []) (pc' := 85) rfl k193_82 rfl (hy4 rfl rfl rfl rfl) rfl rfl hq_149 rfl (fun q17 => ?_)
          refine q_s (pc' := 87) (ls' := [vR 137, vI l1, vI l2, vI l3, vI l4, vI l5]) (st' := [vI 10, vI q17.1]) (g' := q17.2) k193_85 rfl rfl ?_
          refine q_s (pc' := 88) (ls' := [vR 137, vI l1, vI l2, vI l3, vI l4, vI l5]) (st' := [vI l3, vI 10, vI q17.1]) (g' := q17.2) k193_87 rfl rfl ?_
          refine q_s (pc' := 89) (ls' := [vR 137, vI l1, vI l2, vI l3, vI l4, vI l5]) (st' := [vI (iw (10 * l3)), vI q17.1]) (g' := q17.2) k193_88 rfl rfl ?_
          refine q_s (pc' := 90) (ls' := [vR 137, vI l1, vI l2, vI l3, vI l4, vI l5]) (st' := [vI l2, vI (iw (10 * l3)), vI q17.1]) (g' := q17.2) k193_89 rfl rfl ?_
          refine q_s (pc' := 91) (ls' := [vR 137, vI l1, vI l2, vI l3, vI l4, vI l5]) (st' := [vI (iw ((iw (10 * l3)) + l2)), vI q17.1]) (g' := q17.2) k193_90 rfl rfl ?_
          refine q_callI (ls0 := [vI q17.1, vI (iw ((iw (10 * l3)) + l2))]) (rest := []) (pc' := 94) rfl k193_91 rfl (hy4 rfl rfl rfl rfl) rfl rfl hq_143 rfl (fun q18 => ?_)
          refine q_if (P := q18.1 ≠ 0) (t := 101) (pc' := 97) k193_94 Iff.rfl rfl rfl (fun h19 => ?_) (fun h19 => ?_)
          · refine q_s (pc' := 102) (ls' := [vR 137, vI l1, vI l2, vI l3, vI l4, vI l5]) (st' := [vI 0]) (g' := q18.2) k193_101 rfl rfl ?_
            refine q_s (pc' := 104) (ls' := [vR 137, vI l1, vI l2, vI l3, vI 0, vI l5]) (st' := []) (g' := q18.2) k193_102 rfl rfl ?_
            refine q_s (pc' := 107) (ls' := [vR 137, vI l1, vI l2, vI l3, vI 0, vI (iw (l5 + 1))]) (st' := []) (g' := q18.2) k193_104 rfl rfl ?_
            refine q_s (pc' := 34) (ls' := [vR 137, vI l1, vI l2, vI l3, vI 0, vI (iw (l5 + 1))]) (st' := []) (g' := q18.2) k193_107 rfl rfl ?_
            rfl
          · refine q_s (pc' := 98) (ls' := [vR 137, vI l1, vI l2, vI l3, vI l4, vI l5]) (st' := [vI 1]) (g' := q18.2) k193_97 rfl rfl ?_
            refine q_s (pc' := 102) (ls' := [vR 137, vI l1, vI l2, vI l3, vI l4, vI l5]) (st' := [vI 1]) (g' := q18.2) k193_98 rfl rfl ?_
            refine q_s (pc' := 104) (ls' := [vR 137, vI l1, vI l2, vI l3, vI 1, vI l5]) (st' := []) (g' := q18.2) k193_102 rfl rfl ?_
            refine q_s (pc' := 107) (ls' := [vR 137, vI l1, vI l2, vI l3, vI 1, vI (iw (l5 + 1))]) (st' := []) (g' := q18.2) k193_104 rfl rfl ?_
            refine q_s (pc' := 34) (ls' := [vR 137, vI l1, vI l2, vI l3, vI 1, vI (iw (l5 + 1))]) (st' := []) (g' := q18.2) k193_107 rfl rfl ?_
            rfl
set_option maxHeartbeats 4000000 in
theorem jM_asOther_eq (L : Nat) (g : AMem) : jM_asOther L g = jM_asOther_10 L 0 (up g 137 16 (g 137 10)) := by
  unfold jM_asOther
  refine q_s (pc' := 1) (ls' := [vR 137, vU]) (st' := [vR 137]) (g' := g) k194_0 rfl rfl ?_
  refine q_s (pc' := 2) (ls' := [vR 137, vU]) (st' := [vR 137, vR 137]) (g' := g) k194_1 rfl rfl ?_
  refine q_getI (w := 10) (pc' := 5) k194_2 rfl rfl rfl rfl ?_
  refine q_putI (w := 16) (pc' := 8) k194_5 rfl rfl rfl rfl ?_
  refine q_s (pc' := 9) (ls' := [vR 137, vU]) (st' := [vI 0]) (g' := up g 137 16 (g 137 10)) k194_8 rfl rfl ?_
  refine q_s (pc' := 10) (ls' := [vR 137, vI 0]) (st' := []) (g' := up g 137 16 (g 137 10)) k194_9 rfl rfl ?_
  rfl
set_option maxHeartbeats 4000000 in
theorem jM_asOther_10_eq (L : Nat) (l1 : Int) (g : AMem) : jM_asOther_10 L l1 g = if g 137 10 ≤ l1 then (some g) else (if 0 ≤ l1 ∧ l1 < 24 then (if 0 ≤ l1 ∧ l1 < 24 then (if 0 ≤ l1 ∧ l1 < 24 then (if 0 ≤ l1 ∧ l1 < 24 then (if 0 ≤ l1 ∧ l1 < 24 then (if 0 ≤ l1 ∧ l1 < 24 then (jM_asOther_10 L (iw (l1 + 1)) (up (up (up g 150 l1 (g 145 l1)) 151 l1 ((up g 150 l1 (g 145 l1)) 146 l1)) 152 l1 ((up (up g 150 l1 (g 145 l1)) 151 l1 ((up g 150 l1 (g 145 l1)) 146 l1)) 147 l1))) else none) else none) else none) else none) else none) else none) := by
  unfold jM_asOther_10
  refine q_s (pc' := 11) (ls' := [vR 137, vI l1]) (st' := [vI l1]) (g' := g) k194_10 rfl rfl ?_
  refine q_s (pc' := 12) (ls' := [vR 137, vI l1]) (st' := [vR 137, vI l1]) (g' := g) k194_11 rfl rfl ?_
  refine q_getI (w := 10) (pc' := 15) k194_12 rfl rfl rfl rfl ?_
  refine q_ic (P := g 137 10 ≤ l1) (t := 60) (pc' := 18) k194_15 Iff.rfl rfl rfl (fun h1 => ?_) (fun h1 => ?_)
  · exact q_e k194_60 rfl rfl rfl
  · refine q_s (pc' := 19) (ls' := [vR 137, vI l1]) (st' := [vR 137]) (g' := g) k194_18 rfl rfl ?_
    refine q_getF (r := 150) (pc' := 22) k194_19 rfl rfl rfl rfl ?_
    refine q_s (pc' := 23) (ls' := [vR 137, vI l1]) (st' := [vI l1, vR 150]) (g' := g) k194_22 rfl rfl ?_
    refine q_s (pc' := 24) (ls' := [vR 137, vI l1]) (st' := [vR 137, vI l1, vR 150]) (g' := g) k194_23 rfl rfl ?_
    refine q_getF (r := 145) (pc' := 27) k194_24 rfl rfl rfl rfl ?_
    refine q_s (pc' := 28) (ls' := [vR 137, vI l1]) (st' := [vI l1, vR 145, vI l1, vR 150]) (g' := g) k194_27 rfl rfl ?_
    refine q_iald (n := 24) (pc' := 29) rfl k194_28 rfl rfl (fun h2 => ?_)
    refine q_iast (n := 24) (pc' := 30) rfl k194_29 rfl (by decide) rfl (fun h3 => ?_)
    refine q_s (pc' := 31) (ls' := [vR 137, vI l1]) (st' := [vR 137]) (g' := up g 150 l1 (g 145 l1)) k194_30 rfl rfl ?_
    refine q_getF (r := 151) (pc' := 34) k194_31 rfl rfl rfl rfl ?_
    refine q_s (pc' := 35) (ls' := [vR 137, vI l1]) (st' := [vI l1, vR 151]) (g' := up g 150 l1 (g 145 l1)) k194_34 rfl rfl ?_
    refine q_s (pc' := 36) (ls' := [vR 137, vI l1]) (st' := [vR 137, vI l1, vR 151]) (g' := up g 150 l1 (g 145 l1)) k194_35 rfl rfl ?_
    refine q_getF (r := 146) (pc' := 39) k194_36 rfl rfl rfl rfl ?_
    refine q_s (pc' := 40) (ls' := [vR 137, vI l1]) (st' := [vI l1, vR 146, vI l1, vR 151]) (g' := up g 150 l1 (g 145 l1)) k194_39 rfl rfl ?_
    refine q_iald (n := 24) (pc' := 41) rfl k194_40 rfl rfl (fun h4 => ?_)
    refine q_iast (n := 24) (pc' := 42) rfl k194_41 rfl (by decide) rfl (fun h5 => ?_)
    refine q_s (pc' := 43) (ls' := [vR 137, vI l1]) (st' := [vR 137]) (g' := up (up g 150 l1 (g 145 l1)) 151 l1 ((up g 150 l1 (g 145 l1)) 146 l1)) k194_42 rfl rfl ?_
    refine q_getF (r := 152) (pc' := 46) k194_43 rfl rfl rfl rfl ?_
    refine q_s (pc' := 47) (ls' := [vR 137, vI l1]) (st' := [vI l1, vR 152]) (g' := up (up g 150 l1 (g 145 l1)) 151 l1 ((up g 150 l1 (g 145 l1)) 146 l1)) k194_46 rfl rfl ?_
    refine q_s (pc' := 48) (ls' := [vR 137, vI l1]) (st' := [vR 137, vI l1, vR 152]) (g' := up (up g 150 l1 (g 145 l1)) 151 l1 ((up g 150 l1 (g 145 l1)) 146 l1)) k194_47 rfl rfl ?_
    refine q_getF (r := 147) (pc' := 51) k194_48 rfl rfl rfl rfl ?_
    refine q_s (pc' := 52) (ls' := [vR 137, vI l1]) (st' := [vI l1, vR 147, vI l1, vR 152]) (g' := up (up g 150 l1 (g 145 l1)) 151 l1 ((up g 150 l1 (g 145 l1)) 146 l1)) k194_51 rfl rfl ?_
    refine q_iald (n := 24) (pc' := 53) rfl k194_52 rfl rfl (fun h6 => ?_)
    refine q_iast (n := 24) (pc' := 54) rfl k194_53 rfl (by decide) rfl (fun h7 => ?_)
    refine q_s (pc' := 57) (ls' := [vR 137, vI (iw (l1 + 1))]) (st' := []) (g' := up (up (up g 150 l1 (g 145 l1)) 151 l1 ((up g 150 l1 (g 145 l1)) 146 l1)) 152 l1 ((up (up g 150 l1 (g 145 l1)) 151 l1 ((up g 150 l1 (g 145 l1)) 146 l1)) 147 l1)) k194_54 rfl rfl ?_
    refine q_s (pc' := 10) (ls' := [vR 137, vI (iw (l1 + 1))]) (st' := []) (g' := up (up (up g 150 l1 (g 145 l1)) 151 l1 ((up g 150 l1 (g 145 l1)) 146 l1)) 152 l1 ((up (up g 150 l1 (g 145 l1)) 151 l1 ((up g 150 l1 (g 145 l1)) 146 l1)) 147 l1)) k194_57 rfl rfl ?_
    rfl
set_option maxHeartbeats 4000000 in
theorem jM_sameBack_eq (L : Nat) (g : AMem) : jM_sameBack L g = jM_sameBack_4 L 0 1 vU vU g := by
  unfold jM_sameBack
  refine q_s (pc' := 1) (ls' := [vR 137, vU, vU, vU, vU]) (st' := [vI 0]) (g' := g) k195_0 rfl rfl ?_
  refine q_s (pc' := 2) (ls' := [vR 137, vI 0, vU, vU, vU]) (st' := []) (g' := g) k195_1 rfl rfl ?_
  refine q_s (pc' := 3) (ls' := [vR 137, vI 0, vU, vU, vU]) (st' := [vI 1]) (g' := g) k195_2 rfl rfl ?_
  refine q_s (pc' := 4) (ls' := [vR 137, vI 0, vI 1, vU, vU]) (st' := []) (g' := g) k195_3 rfl rfl ?_
  rfl
set_option maxHeartbeats 4000000 in
theorem jM_sameBack_4_eq (L : Nat) (l1 : Int) (l2 : Int) (w3 : AVal) (w4 : AVal) (g : AMem) : jM_sameBack_4 L l1 l2 w3 w4 g = if l2 = 0 then (some (l1, g)) else (if g 137 10 ≤ l1 then (some (l1, g)) else (if g 137 16 ≤ l1 then (some (l1, g)) else (if 0 ≤ iw ((iw ((g 137 10) - 1)) - l1) ∧ iw ((iw ((g 137 10) - 1)) - l1) < 24 then (if 0 ≤ iw ((iw ((g 137 16) - 1)) - l1) ∧ iw ((iw ((g 137 16) - 1)) - l1) < 24 then (if g 145 (iw ((iw ((g 137 10) - 1)) - l1)) ≠ g 150 (iw ((iw ((g 137 16) - 1)) - l1)) then (jM_sameBack_4 L (iw (l1 + 0)) 0 (vI (iw ((iw ((g 137 10) - 1)) - l1))) (vI (iw ((iw ((g 137 16) - 1)) - l1))) g) else (if 0 ≤ iw ((iw ((g 137 10) - 1)) - l1) ∧ iw ((iw ((g 137 10) - 1)) - l1) < 24 then (if 0 ≤ iw ((iw ((g 137 16) - 1)) - l1) ∧ iw ((iw ((g 137 16) - 1)) - l1) < 24 then (if g 146 (iw ((iw ((g 137 10) - 1)) - l1)) ≠ g 151 (iw ((iw ((g 137 16) - 1)) - l1)) then (jM_sameBack_4 L (iw (l1 + 0)) 0 (vI (iw ((iw ((g 137 10) - 1)) - l1))) (vI (iw ((iw ((g 137 16) - 1)) - l1))) g) else (if 0 ≤ iw ((iw ((g 137 10) - 1)) - l1) ∧ iw ((iw ((g 137 10) - 1)) - l1) < 24 then (if 0 ≤ iw ((iw ((g 137 16) - 1)) - l1) ∧ iw ((iw ((g 137 16) - 1)) - l1) < 24 then (if g 147 (iw ((iw ((g 137 10) - 1)) - l1)) ≠ g 152 (iw ((iw ((g 137 16) - 1)) - l1)) then (jM_sameBack_4 L (iw (l1 + 0)) 0 (vI (iw ((iw ((g 137 10) - 1)) - l1))) (vI (iw ((iw ((g 137 16) - 1)) - l1))) g) else (jM_sameBack_4 L (iw (l1 + 1)) 1 (vI (iw ((iw ((g 137 10) - 1)) - l1))) (vI (iw ((iw ((g 137 16) - 1)) - l1))) g)) else none) else none)) else none) else none)) else none) else none))) := by
  unfold jM_sameBack_4
  refine q_s (pc' := 5) (ls' := [vR 137, vI l1, vI l2, w3, w4]) (st' := [vI l2]) (g' := g) k195_4 rfl rfl ?_
  refine q_if (P := l2 = 0) (t := 112) (pc' := 8) k195_5 Iff.rfl rfl rfl (fun h1 => ?_) (fun h1 => ?_)
  · refine q_s (pc' := 113) (ls' := [vR 137, vI l1, vI l2, w3, w4]) (st' := [vI l1]) (g' := g) k195_112 rfl rfl ?_
    exact q_e k195_113 rfl rfl rfl
  · refine q_s (pc' := 9) (ls' := [vR 137, vI l1, vI l2, w3, w4]) (st' := [vI l1]) (g' := g) k195_8 rfl rfl ?_
    refine q_s (pc' := 10) (ls' := [vR 137, vI l1, vI l2, w3, w4]) (st' := [vR 137, vI l1]) (g' := g) k195_9 rfl rfl ?_
    refine q_getI (w := 10) (pc' := 13) k195_10 rfl rfl rfl rfl ?_
    refine q_ic (P := g 137 10 ≤ l1) (t := 112) (pc' := 16) k195_13 Iff.rfl rfl rfl (fun h2 => ?_) (fun h2 => ?_)
    · refine q_s (pc' := 113) (ls' := [vR 137, vI l1, vI l2, w3, w4]) (st' := [vI l1]) (g' := g) k195_112 rfl rfl ?_
      exact q_e k195_113 rfl rfl rfl
    · refine q_s (pc' := 17) (ls' := [vR 137, vI l1, vI l2, w3, w4]) (st' := [vI l1]) (g' := g) k195_16 rfl rfl ?_
      refine q_s (pc' := 18) (ls' := [vR 137, vI l1, vI l2, w3, w4]) (st' := [vR 137, vI l1]) (g' := g) k195_17 rfl rfl ?_
      refine q_getI (w := 16) (pc' := 21) k195_18 rfl rfl rfl rfl ?_
      refine q_ic (P := g 137 16 ≤ l1) (t := 112) (pc' := 24) k195_21 Iff.rfl rfl rfl (fun h3 => ?_) (fun h3 => ?_)
      · refine q_s (pc' := 113) (ls' := [vR 137, vI l1, vI l2, w3, w4]) (st' := [vI l1]) (g' := g) k195_112 rfl rfl ?_
        exact q_e k195_113 rfl rfl rfl
      · refine q_s (pc' := 25) (ls' := [vR 137, vI l1, vI l2, w3, w4]) (st' := [vR 137]) (g' := g) k195_24 rfl rfl ?_
        refine q_getI (w := 10) (pc' := 28) k195_25 rfl rfl rfl rfl ?_
        refine q_s (pc' := 29) (ls' := [vR 137, vI l1, vI l2, w3, w4]) (st' := [vI 1, vI (g 137 10)]) (g' := g) k195_28 rfl rfl ?_
        refine q_s (pc' := 30) (ls' := [vR 137, vI l1, vI l2, w3, w4]) (st' := [vI (iw ((g 137 10) - 1))]) (g' := g) k195_29 rfl rfl ?_
        refine q_s (pc' := 31) (ls' := [vR 137, vI l1, vI l2, w3, w4]) (st' := [vI l1, vI (iw ((g 137 10) - 1))]) (g' := g) k195_30 rfl rfl ?_
        refine q_s (pc' := 32) (ls' := [vR 137, vI l1, vI l2, w3, w4]) (st' := [vI (iw ((iw ((g 137 10) - 1)) - l1))]) (g' := g) k195_31 rfl rfl ?_
        refine q_s (pc' := 33) (ls' := [vR 137, vI l1, vI l2, vI (iw ((iw ((g 137 10) - 1)) - l1)), w4]) (st' := []) (g' := g) k195_32 rfl rfl ?_
        refine q_s (pc' := 34) (ls' := [vR 137, vI l1, vI l2, vI (iw ((iw ((g 137 10) - 1)) - l1)), w4]) (st' := [vR 137]) (g' := g) k195_33 rfl rfl ?_
        refine q_getI (w := 16) (pc' := 37) k195_34 rfl rfl rfl rfl ?_
        refine q_s (pc' := 38) (ls' := [vR 137, vI l1, vI l2, vI (iw ((iw ((g 137 10) - 1)) - l1)), w4]) (st' := [vI 1, vI (g 137 16)]) (g' := g) k195_37 rfl rfl ?_
        refine q_s (pc' := 39) (ls' := [vR 137, vI l1, vI l2, vI (iw ((iw ((g 137 10) - 1)) - l1)), w4]) (st' := [vI (iw ((g 137 16) - 1))]) (g' := g) k195_38 rfl rfl ?_
        refine q_s (pc' := 40) (ls' := [vR 137, vI l1, vI l2, vI (iw ((iw ((g 137 10) - 1)) - l1)), w4]) (st' := [vI l1, vI (iw ((g 137 16) - 1))]) (g' := g) k195_39 rfl rfl ?_
        refine q_s (pc' := 41) (ls' := [vR 137, vI l1, vI l2, vI (iw ((iw ((g 137 10) - 1)) - l1)), w4]) (st' := [vI (iw ((iw ((g 137 16) - 1)) - l1))]) (g' := g) k195_40 rfl rfl ?_
        refine q_s (pc' := 43) (ls' := [vR 137, vI l1, vI l2, vI (iw ((iw ((g 137 10) - 1)) - l1)), vI (iw ((iw ((g 137 16) - 1)) - l1))]) (st' := []) (g' := g) k195_41 rfl rfl ?_
        refine q_s (pc' := 44) (ls' := [vR 137, vI l1, vI l2, vI (iw ((iw ((g 137 10) - 1)) - l1)), vI (iw ((iw ((g 137 16) - 1)) - l1))]) (st' := [vR 137]) (g' := g) k195_43 rfl rfl ?_
        refine q_getF (r := 145) (pc' := 47) k195_44 rfl rfl rfl rfl ?_
        refine q_s (pc' := 48) (ls' := [vR 137, vI l1, vI l2, vI (iw ((iw ((g 137 10) - 1)) - l1)), vI (iw ((iw ((g 137 16) - 1)) - l1))]) (st' := [vI (iw ((iw ((g 137 10) - 1)) - l1)), vR 145]) (g' := g) k195_47 rfl rfl ?_
        refine q_iald (n := 24) (pc' := 49) rfl k195_48 rfl rfl (fun h4 => ?_)
        refine q_s (pc' := 50) (ls' := [vR 137, vI l1, vI l2, vI (iw ((iw ((g 137 10) - 1)) - l1)), vI (iw ((iw ((g 137 16) - 1)) - l1))]) (st' := [vR 137, vI (g 145 (iw ((iw ((g 137 10) - 1)) - l1)))]) (g' := g) k195_49 rfl rfl ?_
        refine q_getF (r := 150) (pc' := 53) k195_50 rfl rfl rfl rfl ?_
        refine q_s (pc' := 55) (ls' := [vR 137, vI l1, vI l2, vI (iw ((iw ((g 137 10) - 1)) - l1)), vI (iw ((iw ((g 137 16) - 1)) - l1))]) (st' := [vI (iw ((iw ((g 137 16) - 1)) - l1)), vR 150, vI (g 145 (iw ((iw ((g 137 10) - 1)) - l1)))]) (g' := g) k195_53 rfl rfl ?_
        refine q_iald (n := 24) (pc' := 56) rfl k195_55 rfl rfl (fun h5 => ?_)
        refine q_ic (P := g 145 (iw ((iw ((g 137 10) - 1)) - l1)) ≠ g 150 (iw ((iw ((g 137 16) - 1)) - l1))) (t := 95) (pc' := 59) k195_56 Iff.rfl rfl rfl (fun h6 => ?_) (fun h6 => ?_)
        · refine q_s (pc' := 96) (ls' := [vR 137, vI l1, vI l2, vI (iw ((iw ((g 137 10) - 1)) - l1)), vI (iw ((iw ((g 137 16) - 1)) - l1))]) (st' := [vI 0]) (g' := g) k195_95 rfl rfl ?_
          refine q_s (pc' := 97) (ls' := [vR 137, vI l1, vI 0, vI (iw ((iw ((g 137 10) - 1)) - l1)), vI (iw ((iw ((g 137 16) - 1)) - l1))]) (st' := []) (g' := g) k195_96 rfl rfl ?_
          refine q_s (pc' := 98) (ls' := [vR 137, vI l1, vI 0, vI (iw ((iw ((g 137 10) - 1)) - l1)), vI (iw ((iw ((g 137 16) - 1)) - l1))]) (st' := [vI l1]) (g' := g) k195_97 rfl rfl ?_
          refine q_s (pc' := 99) (ls' := [vR 137, vI l1, vI 0, vI (iw ((iw ((g 137 10) - 1)) - l1)), vI (iw ((iw ((g 137 16) - 1)) - l1))]) (st' := [vI 0, vI l1]) (g' := g) k195_98 rfl rfl ?_
          refine q_s (pc' := 106) (ls' := [vR 137, vI l1, vI 0, vI (iw ((iw ((g 137 10) - 1)) - l1)), vI (iw ((iw ((g 137 16) - 1)) - l1))]) (st' := [vI l1]) (g' := g) k195_99 rfl rfl ?_
          refine q_s (pc' := 107) (ls' := [vR 137, vI l1, vI 0, vI (iw ((iw ((g 137 10) - 1)) - l1)), vI (iw ((iw ((g 137 16) - 1)) - l1))]) (st' := [vI 0, vI l1]) (g' := g) k195_106 rfl rfl ?_
          refine q_s (pc' := 108) (ls' := [vR 137, vI l1, vI 0, vI (iw ((iw ((g 137 10) - 1)) - l1)), vI (iw ((iw ((g 137 16) - 1)) - l1))]) (st' := [vI (iw (l1 + 0))]) (g' := g) k195_107 rfl rfl ?_
          refine q_s (pc' := 109) (ls' := [vR 137, vI (iw (l1 + 0)), vI 0, vI (iw ((iw ((g 137 10) - 1)) - l1)), vI (iw ((iw ((g 137 16) - 1)) - l1))]) (st' := []) (g' := g) k195_108 rfl rfl ?_
          refine q_s (pc' := 4) (ls' := [vR 137, vI (iw (l1 + 0)), vI 0, vI (iw ((iw ((g 137 10) - 1)) - l1)), vI (iw ((iw ((g 137 16) - 1)) - l1))]) (st' := []) (g' := g) k195_109 rfl rfl ?_
          rfl
        · refine q_s (pc' := 60) (ls' := [vR 137, vI l1, vI l2, vI (iw ((iw ((g 137 10) - 1)) - l1)), vI (iw ((iw ((g 137 16) - 1)) - l1))]) (st' := [vR 137]) (g' := g) k195_59 rfl rfl ?_
          refine q_getF (r := 146) (pc' := 63) k195_60 rfl rfl rfl rfl ?_
          refine q_s (pc' := 64) (ls' := [vR 137, vI l1, vI l2, vI (iw ((iw ((g 137 10) - 1)) - l1)), vI (iw ((iw ((g 137 16) - 1)) - l1))]) (st' := [vI (iw ((iw ((g 137 10) - 1)) - l1)), vR 146]) (g' := g) k195_63 rfl rfl ?_
          refine q_iald (n := 24) (pc' := 65) rfl k195_64 rfl rfl (fun h7 => ?_)
          refine q_s (pc' := 66) (ls' := [vR 137, vI l1, vI l2, vI (iw ((iw ((g 137 10) - 1)) - l1)), vI (iw ((iw ((g 137 16) - 1)) - l1))]) (st' := [vR 137, vI (g 146 (iw ((iw ((g 137 10) - 1)) - l1)))]) (g' := g) k195_65 rfl rfl ?_
          refine q_getF (r := 151) (pc' := 69) k195_66 rfl rfl rfl rfl ?_
          refine q_s (pc' := 71) (ls' := [vR 137, vI l1, vI l2, vI (iw ((iw ((g 137 10) - 1)) - l1)), vI (iw ((iw ((g 137 16) - 1)) - l1))]) (st' := [vI (iw ((iw ((g 137 16) - 1)) - l1)), vR 151, vI (g 146 (iw ((iw ((g 137 10) - 1)) - l1)))]) (g' := g) k195_69 rfl rfl ?_
          refine q_iald (n := 24) (pc' := 72) rfl k195_71 rfl rfl (fun h8 => ?_)
          refine q_ic (P := g 146 (iw ((iw ((g 137 10) - 1)) - l1)) ≠ g 151 (iw ((iw ((g 137 16) - 1)) - l1))) (t := 95) (pc' := 75) k195_72 Iff.rfl rfl rfl (fun h9 => ?_) (fun h9 => ?_)
          · refine q_s (pc' := 96) (ls' := [vR 137, vI l1, vI l2, vI (iw ((iw ((g 137 10) - 1)) - l1)), vI (iw ((iw ((g 137 16) - 1)) - l1))]) (st' := [vI 0]) (g' := g) k195_95 rfl rfl ?_
            refine q_s (pc' := 97) (ls' := [vR 137, vI l1, vI 0, vI (iw ((iw ((g 137 10) - 1)) - l1)), vI (iw ((iw ((g 137 16) - 1)) - l1))]) (st' := []) (g' := g) k195_96 rfl rfl ?_
            refine q_s (pc' := 98) (ls' := [vR 137, vI l1, vI 0, vI (iw ((iw ((g 137 10) - 1)) - l1)), vI (iw ((iw ((g 137 16) - 1)) - l1))]) (st' := [vI l1]) (g' := g) k195_97 rfl rfl ?_
            refine q_s (pc' := 99) (ls' := [vR 137, vI l1, vI 0, vI (iw ((iw ((g 137 10) - 1)) - l1)), vI (iw ((iw ((g 137 16) - 1)) - l1))]) (st' := [vI 0, vI l1]) (g' := g) k195_98 rfl rfl ?_
            refine q_s (pc' := 106) (ls' := [vR 137, vI l1, vI 0, vI (iw ((iw ((g 137 10) - 1)) - l1)), vI (iw ((iw ((g 137 16) - 1)) - l1))]) (st' := [vI l1]) (g' := g) k195_99 rfl rfl ?_
            refine q_s (pc' := 107) (ls' := [vR 137, vI l1, vI 0, vI (iw ((iw ((g 137 10) - 1)) - l1)), vI (iw ((iw ((g 137 16) - 1)) - l1))]) (st' := [vI 0, vI l1]) (g' := g) k195_106 rfl rfl ?_
            refine q_s (pc' := 108) (ls' := [vR 137, vI l1, vI 0, vI (iw ((iw ((g 137 10) - 1)) - l1)), vI (iw ((iw ((g 137 16) - 1)) - l1))]) (st' := [vI (iw (l1 + 0))]) (g' := g) k195_107 rfl rfl ?_
            refine q_s (pc' := 109) (ls' := [vR 137, vI (iw (l1 + 0)), vI 0, vI (iw ((iw ((g 137 10) - 1)) - l1)), vI (iw ((iw ((g 137 16) - 1)) - l1))]) (st' := []) (g' := g) k195_108 rfl rfl ?_
            refine q_s (pc' := 4) (ls' := [vR 137, vI (iw (l1 + 0)), vI 0, vI (iw ((iw ((g 137 10) - 1)) - l1)), vI (iw ((iw ((g 137 16) - 1)) - l1))]) (st' := []) (g' := g) k195_109 rfl rfl ?_
            rfl
          · refine q_s (pc' := 76) (ls' := [vR 137, vI l1, vI l2, vI (iw ((iw ((g 137 10) - 1)) - l1)), vI (iw ((iw ((g 137 16) - 1)) - l1))]) (st' := [vR 137]) (g' := g) k195_75 rfl rfl ?_
            refine q_getF (r := 147) (pc' := 79) k195_76 rfl rfl rfl rfl ?_
            refine q_s (pc' := 80) (ls' := [vR 137, vI l1, vI l2, vI (iw ((iw ((g 137 10) - 1)) - l1)), vI (iw ((iw ((g 137 16) - 1)) - l1))]) (st' := [vI (iw ((iw ((g 137 10) - 1)) - l1)), vR 147]) (g' := g) k195_79 rfl rfl ?_
            refine q_iald (n := 24) (pc' := 81) rfl k195_80 rfl rfl (fun h10 => ?_)
            refine q_s (pc' := 82) (ls' := [vR 137, vI l1, vI l2, vI (iw ((iw ((g 137 10) - 1)) - l1)), vI (iw ((iw ((g 137 16) - 1)) - l1))]) (st' := [vR 137, vI (g 147 (iw ((iw ((g 137 10) - 1)) - l1)))]) (g' := g) k195_81 rfl rfl ?_
            refine q_getF (r := 152) (pc' := 85) k195_82 rfl rfl rfl rfl ?_
            refine q_s (pc' := 87) (ls' := [vR 137, vI l1, vI l2, vI (iw ((iw ((g 137 10) - 1)) - l1)), vI (iw ((iw ((g 137 16) - 1)) - l1))]) (st' := [vI (iw ((iw ((g 137 16) - 1)) - l1)), vR 152, vI (g 147 (iw ((iw ((g 137 10) - 1)) - l1)))]) (g' := g) k195_85 rfl rfl ?_
            refine q_iald (n := 24) (pc' := 88) rfl k195_87 rfl rfl (fun h11 => ?_)
            refine q_ic (P := g 147 (iw ((iw ((g 137 10) - 1)) - l1)) ≠ g 152 (iw ((iw ((g 137 16) - 1)) - l1))) (t := 95) (pc' := 91) k195_88 Iff.rfl rfl rfl (fun h12 => ?_) (fun h12 => ?_)
            · refine q_s (pc' := 96) (ls' := [vR 137, vI l1, vI l2, vI (iw ((iw ((g 137 10) - 1)) - l1)), vI (iw ((iw ((g 137 16) - 1)) - l1))]) (st' := [vI 0]) (g' := g) k195_95 rfl rfl ?_
              refine q_s (pc' := 97) (ls' := [vR 137, vI l1, vI 0, vI (iw ((iw ((g 137 10) - 1)) - l1)), vI (iw ((iw ((g 137 16) - 1)) - l1))]) (st' := []) (g' := g) k195_96 rfl rfl ?_
              refine q_s (pc' := 98) (ls' := [vR 137, vI l1, vI 0, vI (iw ((iw ((g 137 10) - 1)) - l1)), vI (iw ((iw ((g 137 16) - 1)) - l1))]) (st' := [vI l1]) (g' := g) k195_97 rfl rfl ?_
              refine q_s (pc' := 99) (ls' := [vR 137, vI l1, vI 0, vI (iw ((iw ((g 137 10) - 1)) - l1)), vI (iw ((iw ((g 137 16) - 1)) - l1))]) (st' := [vI 0, vI l1]) (g' := g) k195_98 rfl rfl ?_
              refine q_s (pc' := 106) (ls' := [vR 137, vI l1, vI 0, vI (iw ((iw ((g 137 10) - 1)) - l1)), vI (iw ((iw ((g 137 16) - 1)) - l1))]) (st' := [vI l1]) (g' := g) k195_99 rfl rfl ?_
              refine q_s (pc' := 107) (ls' := [vR 137, vI l1, vI 0, vI (iw ((iw ((g 137 10) - 1)) - l1)), vI (iw ((iw ((g 137 16) - 1)) - l1))]) (st' := [vI 0, vI l1]) (g' := g) k195_106 rfl rfl ?_
              refine q_s (pc' := 108) (ls' := [vR 137, vI l1, vI 0, vI (iw ((iw ((g 137 10) - 1)) - l1)), vI (iw ((iw ((g 137 16) - 1)) - l1))]) (st' := [vI (iw (l1 + 0))]) (g' := g) k195_107 rfl rfl ?_
              refine q_s (pc' := 109) (ls' := [vR 137, vI (iw (l1 + 0)), vI 0, vI (iw ((iw ((g 137 10) - 1)) - l1)), vI (iw ((iw ((g 137 16) - 1)) - l1))]) (st' := []) (g' := g) k195_108 rfl rfl ?_
              refine q_s (pc' := 4) (ls' := [vR 137, vI (iw (l1 + 0)), vI 0, vI (iw ((iw ((g 137 10) - 1)) - l1)), vI (iw ((iw ((g 137 16) - 1)) - l1))]) (st' := []) (g' := g) k195_109 rfl rfl ?_
              rfl
            · refine q_s (pc' := 92) (ls' := [vR 137, vI l1, vI l2, vI (iw ((iw ((g 137 10) - 1)) - l1)), vI (iw ((iw ((g 137 16) - 1)) - l1))]) (st' := [vI 1]) (g' := g) k195_91 rfl rfl ?_
              refine q_s (pc' := 96) (ls' := [vR 137, vI l1, vI l2, vI (iw ((iw ((g 137 10) - 1)) - l1)), vI (iw ((iw ((g 137 16) - 1)) - l1))]) (st' := [vI 1]) (g' := g) k195_92 rfl rfl ?_
              refine q_s (pc' := 97) (ls' := [vR 137, vI l1, vI 1, vI (iw ((iw ((g 137 10) - 1)) - l1)), vI (iw ((iw ((g 137 16) - 1)) - l1))]) (st' := []) (g' := g) k195_96 rfl rfl ?_
              refine q_s (pc' := 98) (ls' := [vR 137, vI l1, vI 1, vI (iw ((iw ((g 137 10) - 1)) - l1)), vI (iw ((iw ((g 137 16) - 1)) - l1))]) (st' := [vI l1]) (g' := g) k195_97 rfl rfl ?_
              refine q_s (pc' := 99) (ls' := [vR 137, vI l1, vI 1, vI (iw ((iw ((g 137 10) - 1)) - l1)), vI (iw ((iw ((g 137 16) - 1)) - l1))]) (st' := [vI 1, vI l1]) (g' := g) k195_98 rfl rfl ?_
              refine q_s (pc' := 102) (ls' := [vR 137, vI l1, vI 1, vI (iw ((iw ((g 137 10) - 1)) - l1)), vI (iw ((iw ((g 137 16) - 1)) - l1))]) (st' := [vI l1]) (g' := g) k195_99 rfl rfl ?_
              refine q_s (pc' := 103) (ls' := [vR 137, vI l1, vI 1, vI (iw ((iw ((g 137 10) - 1)) - l1)), vI (iw ((iw ((g 137 16) - 1)) - l1))]) (st' := [vI 1, vI l1]) (g' := g) k195_102 rfl rfl ?_
              refine q_s (pc' := 107) (ls' := [vR 137, vI l1, vI 1, vI (iw ((iw ((g 137 10) - 1)) - l1)), vI (iw ((iw ((g 137 16) - 1)) - l1))]) (st' := [vI 1, vI l1]) (g' := g) k195_103 rfl rfl ?_
              refine q_s (pc' := 108) (ls' := [vR 137, vI l1, vI 1, vI (iw ((iw ((g 137 10) - 1)) - l1)), vI (iw ((iw ((g 137 16) - 1)) - l1))]) (st' := [vI (iw (l1 + 1))]) (g' := g) k195_107 rfl rfl ?_
              refine q_s (pc' := 109) (ls' := [vR 137, vI (iw (l1 + 1)), vI 1, vI (iw ((iw ((g 137 10) - 1)) - l1)), vI (iw ((iw ((g 137 16) - 1)) - l1))]) (st' := []) (g' := g) k195_108 rfl rfl ?_
              refine q_s (pc' := 4) (ls' := [vR 137, vI (iw (l1 + 1)), vI 1, vI (iw ((iw ((g 137 10) - 1)) - l1)), vI (iw ((iw ((g 137 16) - 1)) - l1))]) (st' := []) (g' := g) k195_109 rfl rfl ?_
              rfl
