set_option maxHeartbeats 4000000 in
theorem jM_mayBeGiven_eq (L : Nat) (a1 : Int) (a2 : Int) (a3 : Int) (g : AMem) : jM_mayBeGiven L a1 a2 a3 g = if 0 ≤ a3 then ((jM_isRegion L a3 g).bind (fun q2 => if q2.1 = 0 then (some (0, q2.2)) else ((jM_widthOf L a3 q2.2).bind (fun q4 => (jM_parameterOf L a1 a2 q4.2).bind (fun q5 => (jM_widthOf L q5.1 q5.2).bind (fun q6 => if q4.1 ≠ q6.1 then (some (0, q6.2)) else (some (1, q6.2)))))))) else (if a3 < (-100) then (some (0, g)) else (some (1, g))) := by
  unfold jM_mayBeGiven
  refine q_s (pc' := 1) (ls' := [vR 137, vI a1, vI a2, vI a3]) (st' := [vI a3]) (g' := g) k156_0 rfl rfl ?_
  refine q_if (P := 0 ≤ a3) (t := 18) (pc' := 4) k156_1 Iff.rfl rfl rfl (fun h1 => ?_) (fun h1 => ?_)
  · refine q_s (pc' := 19) (ls' := [vR 137, vI a1, vI a2, vI a3]) (st' := [vI a3]) (g' := g) k156_18 rfl rfl ?_
    refine q_callI (ls0 := [vI a3]) (rest := []) (pc' := 22) rfl k156_19 rfl (hy4 rfl rfl rfl rfl) rfl rfl hq_140 rfl (fun q2 => ?_)
    refine q_if (P := q2.1 = 0) (t := 45) (pc' := 25) k156_22 Iff.rfl rfl rfl (fun h3 => ?_) (fun h3 => ?_)
    · refine q_s (pc' := 46) (ls' := [vR 137, vI a1, vI a2, vI a3]) (st' := [vI 0]) (g' := q2.2) k156_45 rfl rfl ?_
      exact q_e k156_46 rfl rfl rfl
    · refine q_s (pc' := 26) (ls' := [vR 137, vI a1, vI a2, vI a3]) (st' := [vI a3]) (g' := q2.2) k156_25 rfl rfl ?_
      refine q_callI (ls0 := [vI a3]) (rest := []) (pc' := 29) rfl k156_26 rfl (hy4 rfl rfl rfl rfl) rfl rfl hq_137 rfl (fun q4 => ?_)
      refine q_s (pc' := 30) (ls' := [vR 137, vI a1, vI a2, vI a3]) (st' := [vR 137, vI q4.1]) (g' := q4.2) k156_29 rfl rfl ?_
      refine q_s (pc' := 31) (ls' := [vR 137, vI a1, vI a2, vI a3]) (st' := [vI a1, vR 137, vI q4.1]) (g' := q4.2) k156_30 rfl rfl ?_
      refine q_s (pc' := 32) (ls' := [vR 137, vI a1, vI a2, vI a3]) (st' := [vI a2, vI a1, vR 137, vI q4.1]) (g' := q4.2) k156_31 rfl rfl ?_
      refine q_callI (ls0 := [vR 137, vI a1, vI a2]) (rest := [vI q4.1]) (pc' := 35) rfl k156_32 rfl (hy4 rfl rfl rfl rfl) rfl rfl hq_145 rfl (fun q5 => ?_)
      refine q_callI (ls0 := [vI q5.1]) (rest := [vI q4.1]) (pc' := 38) rfl k156_35 rfl (hy4 rfl rfl rfl rfl) rfl rfl hq_137 rfl (fun q6 => ?_)
      refine q_ic (P := q4.1 ≠ q6.1) (t := 45) (pc' := 41) k156_38 Iff.rfl rfl rfl (fun h7 => ?_) (fun h7 => ?_)
      · refine q_s (pc' := 46) (ls' := [vR 137, vI a1, vI a2, vI a3]) (st' := [vI 0]) (g' := q6.2) k156_45 rfl rfl ?_
        exact q_e k156_46 rfl rfl rfl
      · refine q_s (pc' := 42) (ls' := [vR 137, vI a1, vI a2, vI a3]) (st' := [vI 1]) (g' := q6.2) k156_41 rfl rfl ?_
        refine q_s (pc' := 46) (ls' := [vR 137, vI a1, vI a2, vI a3]) (st' := [vI 1]) (g' := q6.2) k156_42 rfl rfl ?_
        exact q_e k156_46 rfl rfl rfl
  · refine q_s (pc' := 5) (ls' := [vR 137, vI a1, vI a2, vI a3]) (st' := [vI a3]) (g' := g) k156_4 rfl rfl ?_
    refine q_s (pc' := 7) (ls' := [vR 137, vI a1, vI a2, vI a3]) (st' := [vI (-100), vI a3]) (g' := g) k156_5 rfl rfl ?_
    refine q_ic (P := a3 < (-100)) (t := 14) (pc' := 10) k156_7 Iff.rfl rfl rfl (fun h8 => ?_) (fun h8 => ?_)
    · refine q_s (pc' := 15) (ls' := [vR 137, vI a1, vI a2, vI a3]) (st' := [vI 0]) (g' := g) k156_14 rfl rfl ?_
      refine q_s (pc' := 46) (ls' := [vR 137, vI a1, vI a2, vI a3]) (st' := [vI 0]) (g' := g) k156_15 rfl rfl ?_
      exact q_e k156_46 rfl rfl rfl
    · refine q_s (pc' := 11) (ls' := [vR 137, vI a1, vI a2, vI a3]) (st' := [vI 1]) (g' := g) k156_10 rfl rfl ?_
      refine q_s (pc' := 46) (ls' := [vR 137, vI a1, vI a2, vI a3]) (st' := [vI 1]) (g' := g) k156_11 rfl rfl ?_
      exact q_e k156_46 rfl rfl rfl
set_option maxHeartbeats 4000000 in
theorem jM_argument_eq (L : Nat) (a1 : Int) (a2 : Int) (a3 : Int) (g : AMem) : jM_argument L a1 a2 a3 g = (jM_isEdge L a1 g).bind (fun q1 => if q1.1 = 0 then ((jM_bad L q1.2).bind (fun q3 => some (q3.1, q3.2))) else ((jM_manyOf L a1 q1.2).bind (fun q4 => (jM_in L a2 0 (iw (q4.1 - 1)) q4.2).bind (fun q5 => if q5.1 = 0 then ((jM_bad L q5.2).bind (fun q7 => some (q7.1, q7.2))) else ((jM_mayBeGiven L a1 a2 a3 q5.2).bind (fun q8 => if q8.1 ≠ 0 then ((jM_givenOf L a1 a2 q8.2).bind (fun q10 => if 0 ≤ iw ((iw (6 * a1)) + a2) ∧ iw ((iw (6 * a1)) + a2) < 96 then (some (q10.1, up q10.2 144 (iw ((iw (6 * a1)) + a2)) a3)) else none)) else ((jM_bad L q8.2).bind (fun q12 => some (q12.1, q12.2))))))))) := by
  unfold jM_argument
  refine q_s (pc' := 1) (ls' := [vR 137, vI a1, vI a2, vI a3, vU]) (st' := [vR 137]) (g' := g) k157_0 rfl rfl ?_
  refine q_s (pc' := 2) (ls' := [vR 137, vI a1, vI a2, vI a3, vU]) (st' := [vI a1, vR 137]) (g' := g) k157_1 rfl rfl ?_
  refine q_callI (ls0 := [vR 137, vI a1]) (rest := []) (pc' := 5) rfl k157_2 rfl (hy4 rfl rfl rfl rfl) rfl rfl hq_144 rfl (fun q1 => ?_)
  refine q_if (P := q1.1 = 0) (t := 33) (pc' := 8) k157_5 Iff.rfl rfl rfl (fun h2 => ?_) (fun h2 => ?_)
  · refine q_s (pc' := 34) (ls' := [vR 137, vI a1, vI a2, vI a3, vU]) (st' := [vR 137]) (g' := q1.2) k157_33 rfl rfl ?_
    refine q_callI (ls0 := [vR 137]) (rest := []) (pc' := 37) rfl k157_34 rfl (hy4 rfl rfl rfl rfl) rfl rfl hq_133 rfl (fun q3 => ?_)
    exact q_e k157_37 rfl rfl rfl
  · refine q_s (pc' := 9) (ls' := [vR 137, vI a1, vI a2, vI a3, vU]) (st' := [vI a2]) (g' := q1.2) k157_8 rfl rfl ?_
    refine q_s (pc' := 10) (ls' := [vR 137, vI a1, vI a2, vI a3, vU]) (st' := [vI 0, vI a2]) (g' := q1.2) k157_9 rfl rfl ?_
    refine q_s (pc' := 11) (ls' := [vR 137, vI a1, vI a2, vI a3, vU]) (st' := [vR 137, vI 0, vI a2]) (g' := q1.2) k157_10 rfl rfl ?_
    refine q_s (pc' := 12) (ls' := [vR 137, vI a1, vI a2, vI a3, vU]) (st' := [vI a1, vR 137, vI 0, vI a2]) (g' := q1.2) k157_11 rfl rfl ?_
    refine q_callI (ls0 := [vR 137, vI a1]) (rest := [vI 0, vI a2]) (pc' := 15) rfl k157_12 rfl (hy4 rfl rfl rfl rfl) rfl rfl hq_146 rfl (fun q4 => ?_)
    refine q_s (pc' := 16) (ls' := [vR 137, vI a1, vI a2, vI a3, vU]) (st' := [vI 1, vI q4.1, vI 0, vI a2]) (g' := q4.2) k157_15 rfl rfl ?_
    refine q_s (pc' := 17) (ls' := [vR 137, vI a1, vI a2, vI a3, vU]) (st' := [vI (iw (q4.1 - 1)), vI 0, vI a2]) (g' := q4.2) k157_16 rfl rfl ?_
    refine q_callI (ls0 := [vI a2, vI 0, vI (iw (q4.1 - 1))]) (rest := []) (pc' := 20) rfl k157_17 rfl (hy4 rfl rfl rfl rfl) rfl rfl hq_136 rfl (fun q5 => ?_)
    refine q_if (P := q5.1 = 0) (t := 33) (pc' := 23) k157_20 Iff.rfl rfl rfl (fun h6 => ?_) (fun h6 => ?_)
    · refine q_s (pc' := 34) (ls' := [vR 137, vI a1, vI a2, vI a3, vU]) (st' := [vR 137]) (g' := q5.2) k157_33 rfl rfl ?_
      refine q_callI (ls0 := [vR 137]) (rest := []) (pc' := 37) rfl k157_34 rfl (hy4 rfl rfl rfl rfl) rfl rfl hq_133 rfl (fun q7 => ?_)
      exact q_e k157_37 rfl rfl rfl
    · refine q_s (pc' := 24) (ls' := [vR 137, vI a1, vI a2, vI a3, vU]) (st' := [vR 137]) (g' := q5.2) k157_23 rfl rfl ?_
      refine q_s (pc' := 25) (ls' := [vR 137, vI a1, vI a2, vI a3, vU]) (st' := [vI a1, vR 137]) (g' := q5.2) k157_24 rfl rfl ?_
      refine q_s (pc' := 26) (ls' := [vR 137, vI a1, vI a2, vI a3, vU]) (st' := [vI a2, vI a1, vR 137]) (g' := q5.2) k157_25 rfl rfl ?_
      refine q_s (pc' := 27) (ls' := [vR 137, vI a1, vI a2, vI a3, vU]) (st' := [vI a3, vI a2, vI a1, vR 137]) (g' := q5.2) k157_26 rfl rfl ?_
      refine q_callI (ls0 := [vR 137, vI a1, vI a2, vI a3]) (rest := []) (pc' := 30) rfl k157_27 rfl (hy4 rfl rfl rfl rfl) rfl rfl hq_156 rfl (fun q8 => ?_)
      refine q_if (P := q8.1 ≠ 0) (t := 38) (pc' := 33) k157_30 Iff.rfl rfl rfl (fun h9 => ?_) (fun h9 => ?_)
      · refine q_s (pc' := 39) (ls' := [vR 137, vI a1, vI a2, vI a3, vU]) (st' := [vR 137]) (g' := q8.2) k157_38 rfl rfl ?_
        refine q_s (pc' := 40) (ls' := [vR 137, vI a1, vI a2, vI a3, vU]) (st' := [vI a1, vR 137]) (g' := q8.2) k157_39 rfl rfl ?_
        refine q_s (pc' := 41) (ls' := [vR 137, vI a1, vI a2, vI a3, vU]) (st' := [vI a2, vI a1, vR 137]) (g' := q8.2) k157_40 rfl rfl ?_
        refine q_callI (ls0 := [vR 137, vI a1, vI a2]) (rest := []) (pc' := 44) rfl k157_41 rfl (hy4 rfl rfl rfl rfl) rfl rfl hq_147 rfl (fun q10 => ?_)
        refine q_s (pc' := 46) (ls' := [vR 137, vI a1, vI a2, vI a3, vI q10.1]) (st' := []) (g' := q10.2) k157_44 rfl rfl ?_
        refine q_s (pc' := 47) (ls' := [vR 137, vI a1, vI a2, vI a3, vI q10.1]) (st' := [vR 137]) (g' := q10.2) k157_46 rfl rfl ?_
        refine q_getF (r := 144) (pc' := 50) k157_47 rfl rfl rfl rfl ?_
        refine q_s (pc' := 52) (ls' := [vR 137, vI a1, vI a2, vI a3, vI q10.1]) (st' := [vI 6, vR 144]) (g' := q10.2) k157_50 rfl rfl ?_
        refine q_s (pc' := 53) (ls' := [vR 137, vI a1, vI a2, vI a3, vI q10.1]) (st' := [vI a1, vI 6, vR 144]) (g' := q10.2) k157_52 rfl rfl ?_
        refine q_s (pc' := 54) (ls' := [vR 137, vI a1, vI a2, vI a3, vI q10.1]) (st' := [vI (iw (6 * a1)), vR 144]) (g' := q10.2) k157_53 rfl rfl ?_
        refine q_s (pc' := 55) (ls' := [vR 137, vI a1, vI a2, vI a3, vI q10.1]) (st' := [vI a2, vI (iw (6 * a1)), vR 144]) (g' := q10.2) k157_54 rfl rfl ?_
        refine q_s (pc' := 56) (ls' := [vR 137, vI a1, vI a2, vI a3, vI q10.1]) (st' := [vI (iw ((iw (6 * a1)) + a2)), vR 144]) (g' := q10.2) k157_55 rfl rfl ?_
        refine q_s (pc' := 57) (ls' := [vR 137, vI a1, vI a2, vI a3, vI q10.1]) (st' := [vI a3, vI (iw ((iw (6 * a1)) + a2)), vR 144]) (g' := q10.2) k157_56 rfl rfl ?_
        refine q_iast (n := 96) (pc' := 58) rfl k157_57 rfl (by decide) rfl (fun h11 => ?_)
        refine q_s (pc' := 60) (ls' := [vR 137, vI a1, vI a2, vI a3, vI q10.1]) (st' := [vI q10.1]) (g' := up q10.2 144 (iw ((iw (6 * a1)) + a2)) a3) k157_58 rfl rfl ?_
        exact q_e k157_60 rfl rfl rfl
      · refine q_s (pc' := 34) (ls' := [vR 137, vI a1, vI a2, vI a3, vU]) (st' := [vR 137]) (g' := q8.2) k157_33 rfl rfl ?_
        refine q_callI (ls0 := [vR 137]) (rest := []) (pc' := 37) rfl k157_34 rfl (hy4 rfl rfl rfl rfl) rfl rfl hq_133 rfl (fun q12 => ?_)
        exact q_e k157_37 rfl rfl rfl
set_option maxHeartbeats 4000000 in
theorem jM_weight_eq (L : Nat) (a1 : Int) (a2 : Int) (g : AMem) : jM_weight L a1 a2 g = (jM_isEdge L a1 g).bind (fun q1 => if q1.1 = 0 then ((jM_bad L q1.2).bind (fun q3 => some (q3.1, q3.2))) else ((jM_in L a2 0 99 q1.2).bind (fun q4 => if q4.1 ≠ 0 then (if 0 ≤ a1 ∧ a1 < 16 then (if 0 ≤ a1 ∧ a1 < 16 then (some (q4.2 143 a1, up q4.2 143 a1 a2)) else none) else none) else ((jM_bad L q4.2).bind (fun q8 => some (q8.1, q8.2)))))) := by
  unfold jM_weight
  refine q_s (pc' := 1) (ls' := [vR 137, vI a1, vI a2, vU]) (st' := [vR 137]) (g' := g) k158_0 rfl rfl ?_
  refine q_s (pc' := 2) (ls' := [vR 137, vI a1, vI a2, vU]) (st' := [vI a1, vR 137]) (g' := g) k158_1 rfl rfl ?_
  refine q_callI (ls0 := [vR 137, vI a1]) (rest := []) (pc' := 5) rfl k158_2 rfl (hy4 rfl rfl rfl rfl) rfl rfl hq_144 rfl (fun q1 => ?_)
  refine q_if (P := q1.1 = 0) (t := 18) (pc' := 8) k158_5 Iff.rfl rfl rfl (fun h2 => ?_) (fun h2 => ?_)
  · refine q_s (pc' := 19) (ls' := [vR 137, vI a1, vI a2, vU]) (st' := [vR 137]) (g' := q1.2) k158_18 rfl rfl ?_
    refine q_callI (ls0 := [vR 137]) (rest := []) (pc' := 22) rfl k158_19 rfl (hy4 rfl rfl rfl rfl) rfl rfl hq_133 rfl (fun q3 => ?_)
    exact q_e k158_22 rfl rfl rfl
  · refine q_s (pc' := 9) (ls' := [vR 137, vI a1, vI a2, vU]) (st' := [vI a2]) (g' := q1.2) k158_8 rfl rfl ?_
    refine q_s (pc' := 10) (ls' := [vR 137, vI a1, vI a2, vU]) (st' := [vI 0, vI a2]) (g' := q1.2) k158_9 rfl rfl ?_
    refine q_s (pc' := 12) (ls' := [vR 137, vI a1, vI a2, vU]) (st' := [vI 99, vI 0, vI a2]) (g' := q1.2) k158_10 rfl rfl ?_
    refine q_callI (ls0 := [vI a2, vI 0, vI 99]) (rest := []) (pc' := 15) rfl k158_12 rfl (hy4 rfl rfl rfl rfl) rfl rfl hq_136 rfl (fun q4 => ?_)
    refine q_if (P := q4.1 ≠ 0) (t := 23) (pc' := 18) k158_15 Iff.rfl rfl rfl (fun h5 => ?_) (fun h5 => ?_)
    · refine q_s (pc' := 24) (ls' := [vR 137, vI a1, vI a2, vU]) (st' := [vR 137]) (g' := q4.2) k158_23 rfl rfl ?_
      refine q_getF (r := 143) (pc' := 27) k158_24 rfl rfl rfl rfl ?_
      refine q_s (pc' := 28) (ls' := [vR 137, vI a1, vI a2, vU]) (st' := [vI a1, vR 143]) (g' := q4.2) k158_27 rfl rfl ?_
      refine q_iald (n := 16) (pc' := 29) rfl k158_28 rfl rfl (fun h6 => ?_)
      refine q_s (pc' := 30) (ls' := [vR 137, vI a1, vI a2, vI (q4.2 143 a1)]) (st' := []) (g' := q4.2) k158_29 rfl rfl ?_
      refine q_s (pc' := 31) (ls' := [vR 137, vI a1, vI a2, vI (q4.2 143 a1)]) (st' := [vR 137]) (g' := q4.2) k158_30 rfl rfl ?_
      refine q_getF (r := 143) (pc' := 34) k158_31 rfl rfl rfl rfl ?_
      refine q_s (pc' := 35) (ls' := [vR 137, vI a1, vI a2, vI (q4.2 143 a1)]) (st' := [vI a1, vR 143]) (g' := q4.2) k158_34 rfl rfl ?_
      refine q_s (pc' := 36) (ls' := [vR 137, vI a1, vI a2, vI (q4.2 143 a1)]) (st' := [vI a2, vI a1, vR 143]) (g' := q4.2) k158_35 rfl rfl ?_
      refine q_iast (n := 16) (pc' := 37) rfl k158_36 rfl (by decide) rfl (fun h7 => ?_)
      refine q_s (pc' := 38) (ls' := [vR 137, vI a1, vI a2, vI (q4.2 143 a1)]) (st' := [vI (q4.2 143 a1)]) (g' := up q4.2 143 a1 a2) k158_37 rfl rfl ?_
      exact q_e k158_38 rfl rfl rfl
    · refine q_s (pc' := 19) (ls' := [vR 137, vI a1, vI a2, vU]) (st' := [vR 137]) (g' := q4.2) k158_18 rfl rfl ?_
      refine q_callI (ls0 := [vR 137]) (rest := []) (pc' := 22) rfl k158_19 rfl (hy4 rfl rfl rfl rfl) rfl rfl hq_133 rfl (fun q8 => ?_)
      exact q_e k158_22 rfl rfl rfl
set_option maxHeartbeats 4000000 in
theorem jM_machine_eq (L : Nat) (a1 : Int) (g : AMem) : jM_machine L a1 g = (jM_in L a1 0 4 g).bind (fun q1 => if q1.1 ≠ 0 then (some (q1.2 137 3, up q1.2 137 3 a1)) else ((jM_bad L q1.2).bind (fun q3 => some (q3.1, q3.2)))) := by
  unfold jM_machine
  refine q_s (pc' := 1) (ls' := [vR 137, vI a1, vU]) (st' := [vI a1]) (g' := g) k159_0 rfl rfl ?_
  refine q_s (pc' := 2) (ls' := [vR 137, vI a1, vU]) (st' := [vI 0, vI a1]) (g' := g) k159_1 rfl rfl ?_
  refine q_s (pc' := 3) (ls' := [vR 137, vI a1, vU]) (st' := [vI 4, vI 0, vI a1]) (g' := g) k159_2 rfl rfl ?_
  refine q_callI (ls0 := [vI a1, vI 0, vI 4]) (rest := []) (pc' := 6) rfl k159_3 rfl (hy4 rfl rfl rfl rfl) rfl rfl hq_136 rfl (fun q1 => ?_)
  refine q_if (P := q1.1 ≠ 0) (t := 14) (pc' := 9) k159_6 Iff.rfl rfl rfl (fun h2 => ?_) (fun h2 => ?_)
  · refine q_s (pc' := 15) (ls' := [vR 137, vI a1, vU]) (st' := [vR 137]) (g' := q1.2) k159_14 rfl rfl ?_
    refine q_getI (w := 3) (pc' := 18) k159_15 rfl rfl rfl rfl ?_
    refine q_s (pc' := 19) (ls' := [vR 137, vI a1, vI (q1.2 137 3)]) (st' := []) (g' := q1.2) k159_18 rfl rfl ?_
    refine q_s (pc' := 20) (ls' := [vR 137, vI a1, vI (q1.2 137 3)]) (st' := [vR 137]) (g' := q1.2) k159_19 rfl rfl ?_
    refine q_s (pc' := 21) (ls' := [vR 137, vI a1, vI (q1.2 137 3)]) (st' := [vI a1, vR 137]) (g' := q1.2) k159_20 rfl rfl ?_
    refine q_putI (w := 3) (pc' := 24) k159_21 rfl rfl rfl rfl ?_
    refine q_s (pc' := 25) (ls' := [vR 137, vI a1, vI (q1.2 137 3)]) (st' := [vI (q1.2 137 3)]) (g' := up q1.2 137 3 a1) k159_24 rfl rfl ?_
    exact q_e k159_25 rfl rfl rfl
  · refine q_s (pc' := 10) (ls' := [vR 137, vI a1, vU]) (st' := [vR 137]) (g' := q1.2) k159_9 rfl rfl ?_
    refine q_callI (ls0 := [vR 137]) (rest := []) (pc' := 13) rfl k159_10 rfl (hy4 rfl rfl rfl rfl) rfl rfl hq_133 rfl (fun q3 => ?_)
    exact q_e k159_13 rfl rfl rfl
set_option maxHeartbeats 4000000 in
theorem jM_edgesFrom_eq (L : Nat) (a1 : Int) (g : AMem) : jM_edgesFrom L a1 g = jM_edgesFrom_4 L a1 0 0 g := by
  unfold jM_edgesFrom
  refine q_s (pc' := 1) (ls' := [vR 137, vI a1, vU, vU]) (st' := [vI 0]) (g' := g) k160_0 rfl rfl ?_
  refine q_s (pc' := 2) (ls' := [vR 137, vI a1, vI 0, vU]) (st' := []) (g' := g) k160_1 rfl rfl ?_
  refine q_s (pc' := 3) (ls' := [vR 137, vI a1, vI 0, vU]) (st' := [vI 0]) (g' := g) k160_2 rfl rfl ?_
  refine q_s (pc' := 4) (ls' := [vR 137, vI a1, vI 0, vI 0]) (st' := []) (g' := g) k160_3 rfl rfl ?_
  rfl
set_option maxHeartbeats 4000000 in
theorem jM_edgesFrom_4_eq (L : Nat) (l1 : Int) (l2 : Int) (l3 : Int) (g : AMem) : jM_edgesFrom_4 L l1 l2 l3 g = if g 137 2 ≤ l3 then (some (l2, g)) else (if 0 ≤ l3 ∧ l3 < 16 then (if g 141 l3 ≠ l1 then (jM_edgesFrom_4 L l1 (iw (l2 + 0)) (iw (l3 + 1)) g) else (jM_edgesFrom_4 L l1 (iw (l2 + 1)) (iw (l3 + 1)) g)) else none) := by
  unfold jM_edgesFrom_4
  refine q_s (pc' := 5) (ls' := [vR 137, vI l1, vI l2, vI l3]) (st' := [vI l3]) (g' := g) k160_4 rfl rfl ?_
  refine q_s (pc' := 6) (ls' := [vR 137, vI l1, vI l2, vI l3]) (st' := [vR 137, vI l3]) (g' := g) k160_5 rfl rfl ?_
  refine q_getI (w := 2) (pc' := 9) k160_6 rfl rfl rfl rfl ?_
  refine q_ic (P := g 137 2 ≤ l3) (t := 36) (pc' := 12) k160_9 Iff.rfl rfl rfl (fun h1 => ?_) (fun h1 => ?_)
  · refine q_s (pc' := 37) (ls' := [vR 137, vI l1, vI l2, vI l3]) (st' := [vI l2]) (g' := g) k160_36 rfl rfl ?_
    exact q_e k160_37 rfl rfl rfl
  · refine q_s (pc' := 13) (ls' := [vR 137, vI l1, vI l2, vI l3]) (st' := [vI l2]) (g' := g) k160_12 rfl rfl ?_
    refine q_s (pc' := 14) (ls' := [vR 137, vI l1, vI l2, vI l3]) (st' := [vR 137, vI l2]) (g' := g) k160_13 rfl rfl ?_
    refine q_getF (r := 141) (pc' := 17) k160_14 rfl rfl rfl rfl ?_
    refine q_s (pc' := 18) (ls' := [vR 137, vI l1, vI l2, vI l3]) (st' := [vI l3, vR 141, vI l2]) (g' := g) k160_17 rfl rfl ?_
    refine q_iald (n := 16) (pc' := 19) rfl k160_18 rfl rfl (fun h2 => ?_)
    refine q_s (pc' := 20) (ls' := [vR 137, vI l1, vI l2, vI l3]) (st' := [vI l1, vI (g 141 l3), vI l2]) (g' := g) k160_19 rfl rfl ?_
    refine q_ic (P := g 141 l3 ≠ l1) (t := 27) (pc' := 23) k160_20 Iff.rfl rfl rfl (fun h3 => ?_) (fun h3 => ?_)
    · refine q_s (pc' := 28) (ls' := [vR 137, vI l1, vI l2, vI l3]) (st' := [vI 0, vI l2]) (g' := g) k160_27 rfl rfl ?_
      refine q_s (pc' := 29) (ls' := [vR 137, vI l1, vI l2, vI l3]) (st' := [vI (iw (l2 + 0))]) (g' := g) k160_28 rfl rfl ?_
      refine q_s (pc' := 30) (ls' := [vR 137, vI l1, vI (iw (l2 + 0)), vI l3]) (st' := []) (g' := g) k160_29 rfl rfl ?_
      refine q_s (pc' := 33) (ls' := [vR 137, vI l1, vI (iw (l2 + 0)), vI (iw (l3 + 1))]) (st' := []) (g' := g) k160_30 rfl rfl ?_
      refine q_s (pc' := 4) (ls' := [vR 137, vI l1, vI (iw (l2 + 0)), vI (iw (l3 + 1))]) (st' := []) (g' := g) k160_33 rfl rfl ?_
      rfl
    · refine q_s (pc' := 24) (ls' := [vR 137, vI l1, vI l2, vI l3]) (st' := [vI 1, vI l2]) (g' := g) k160_23 rfl rfl ?_
      refine q_s (pc' := 28) (ls' := [vR 137, vI l1, vI l2, vI l3]) (st' := [vI 1, vI l2]) (g' := g) k160_24 rfl rfl ?_
      refine q_s (pc' := 29) (ls' := [vR 137, vI l1, vI l2, vI l3]) (st' := [vI (iw (l2 + 1))]) (g' := g) k160_28 rfl rfl ?_
      refine q_s (pc' := 30) (ls' := [vR 137, vI l1, vI (iw (l2 + 1)), vI l3]) (st' := []) (g' := g) k160_29 rfl rfl ?_
      refine q_s (pc' := 33) (ls' := [vR 137, vI l1, vI (iw (l2 + 1)), vI (iw (l3 + 1))]) (st' := []) (g' := g) k160_30 rfl rfl ?_
      refine q_s (pc' := 4) (ls' := [vR 137, vI l1, vI (iw (l2 + 1)), vI (iw (l3 + 1))]) (st' := []) (g' := g) k160_33 rfl rfl ?_
      rfl
set_option maxHeartbeats 4000000 in
theorem jM_edgesTo_eq (L : Nat) (a1 : Int) (g : AMem) : jM_edgesTo L a1 g = jM_edgesTo_4 L a1 0 0 g := by
  unfold jM_edgesTo
  refine q_s (pc' := 1) (ls' := [vR 137, vI a1, vU, vU]) (st' := [vI 0]) (g' := g) k161_0 rfl rfl ?_
  refine q_s (pc' := 2) (ls' := [vR 137, vI a1, vI 0, vU]) (st' := []) (g' := g) k161_1 rfl rfl ?_
  refine q_s (pc' := 3) (ls' := [vR 137, vI a1, vI 0, vU]) (st' := [vI 0]) (g' := g) k161_2 rfl rfl ?_
  refine q_s (pc' := 4) (ls' := [vR 137, vI a1, vI 0, vI 0]) (st' := []) (g' := g) k161_3 rfl rfl ?_
  rfl
set_option maxHeartbeats 4000000 in
theorem jM_edgesTo_4_eq (L : Nat) (l1 : Int) (l2 : Int) (l3 : Int) (g : AMem) : jM_edgesTo_4 L l1 l2 l3 g = if g 137 2 ≤ l3 then (some (l2, g)) else (if 0 ≤ l3 ∧ l3 < 16 then (if g 142 l3 ≠ l1 then (jM_edgesTo_4 L l1 (iw (l2 + 0)) (iw (l3 + 1)) g) else (jM_edgesTo_4 L l1 (iw (l2 + 1)) (iw (l3 + 1)) g)) else none) := by
  unfold jM_edgesTo_4
  refine q_s (pc' := 5) (ls' := [vR 137, vI l1, vI l2, vI l3]) (st' := [vI l3]) (g' := g) k161_4 rfl rfl ?_
  refine q_s (pc' := 6) (ls' := [vR 137, vI l1, vI l2, vI l3]) (st' := [vR 137, vI l3]) (g' := g) k161_5 rfl rfl ?_
  refine q_getI (w := 2) (pc' := 9) k161_6 rfl rfl rfl rfl ?_
  refine q_ic (P := g 137 2 ≤ l3) (t := 36) (pc' := 12) k161_9 Iff.rfl rfl rfl (fun h1 => ?_) (fun h1 => ?_)
  · refine q_s (pc' := 37) (ls' := [vR 137, vI l1, vI l2, vI l3]) (st' := [vI l2]) (g' := g) k161_36 rfl rfl ?_
    exact q_e k161_37 rfl rfl rfl
  · refine q_s (pc' := 13) (ls' := [vR 137, vI l1, vI l2, vI l3]) (st' := [vI l2]) (g' := g) k161_12 rfl rfl ?_
    refine q_s (pc' := 14) (ls' := [vR 137, vI l1, vI l2, vI l3]) (st' := [vR 137, vI l2]) (g' := g) k161_13 rfl rfl ?_
    refine q_getF (r := 142) (pc' := 17) k161_14 rfl rfl rfl rfl ?_
    refine q_s (pc' := 18) (ls' := [vR 137, vI l1, vI l2, vI l3]) (st' := [vI l3, vR 142, vI l2]) (g' := g) k161_17 rfl rfl ?_
    refine q_iald (n := 16) (pc' := 19) rfl k161_18 rfl rfl (fun h2 => ?_)
    refine q_s (pc' := 20) (ls' := [vR 137, vI l1, vI l2, vI l3]) (st' := [vI l1, vI (g 142 l3), vI l2]) (g' := g) k161_19 rfl rfl ?_
    refine q_ic (P := g 142 l3 ≠ l1) (t := 27) (pc' := 23) k161_20 Iff.rfl rfl rfl (fun h3 => ?_) (fun h3 => ?_)
    · refine q_s (pc' := 28) (ls' := [vR 137, vI l1, vI l2, vI l3]) (st' := [vI 0, vI l2]) (g' := g) k161_27 rfl rfl ?_
      refine q_s (pc' := 29) (ls' := [vR 137, vI l1, vI l2, vI l3]) (st' := [vI (iw (l2 + 0))]) (g' := g) k161_28 rfl rfl ?_
      refine q_s (pc' := 30) (ls' := [vR 137, vI l1, vI (iw (l2 + 0)), vI l3]) (st' := []) (g' := g) k161_29 rfl rfl ?_
      refine q_s (pc' := 33) (ls' := [vR 137, vI l1, vI (iw (l2 + 0)), vI (iw (l3 + 1))]) (st' := []) (g' := g) k161_30 rfl rfl ?_
      refine q_s (pc' := 4) (ls' := [vR 137, vI l1, vI (iw (l2 + 0)), vI (iw (l3 + 1))]) (st' := []) (g' := g) k161_33 rfl rfl ?_
      rfl
    · refine q_s (pc' := 24) (ls' := [vR 137, vI l1, vI l2, vI l3]) (st' := [vI 1, vI l2]) (g' := g) k161_23 rfl rfl ?_
      refine q_s (pc' := 28) (ls' := [vR 137, vI l1, vI l2, vI l3]) (st' := [vI 1, vI l2]) (g' := g) k161_24 rfl rfl ?_
      refine q_s (pc' := 29) (ls' := [vR 137, vI l1, vI l2, vI l3]) (st' := [vI (iw (l2 + 1))]) (g' := g) k161_28 rfl rfl ?_
      refine q_s (pc' := 30) (ls' := [vR 137, vI l1, vI (iw (l2 + 1)), vI l3]) (st' := []) (g' := g) k161_29 rfl rfl ?_
      refine q_s (pc' := 33) (ls' := [vR 137, vI l1, vI (iw (l2 + 1)), vI (iw (l3 + 1))]) (st' := []) (g' := g) k161_30 rfl rfl ?_
      refine q_s (pc' := 4) (ls' := [vR 137, vI l1, vI (iw (l2 + 1)), vI (iw (l3 + 1))]) (st' := []) (g' := g) k161_33 rfl rfl ?_
      rfl
set_option maxHeartbeats 4000000 in
theorem jM_whereOf_eq (L : Nat) (a1 : Int) (g : AMem) : jM_whereOf L a1 g = if 0 ≤ a1 ∧ a1 < 16 then ((jM_edgesFrom L (g 141 a1) g).bind (fun q2 => if q2.1 ≠ 1 then (if 0 ≤ a1 ∧ a1 < 16 then ((jM_edgesTo L (q2.2 142 a1) q2.2).bind (fun q5 => if q5.1 ≠ 1 then (some (2, q5.2)) else (some (1, q5.2)))) else none) else (some (0, q2.2)))) else none := by
  unfold jM_whereOf
  refine q_s (pc' := 1) (ls' := [vR 137, vI a1]) (st' := [vR 137]) (g' := g) k162_0 rfl rfl ?_
  refine q_s (pc' := 2) (ls' := [vR 137, vI a1]) (st' := [vR 137, vR 137]) (g' := g) k162_1 rfl rfl ?_
  refine q_getF (r := 141) (pc' := 5) k162_2 rfl rfl rfl rfl ?_
  refine q_s (pc' := 6) (ls' := [vR 137, vI a1]) (st' := [vI a1, vR 141, vR 137]) (g' := g) k162_5 rfl rfl ?_
  refine q_iald (n := 16) (pc' := 7) rfl k162_6 rfl rfl (fun h1 => ?_)
  refine q_callI (ls0 := [vR 137, vI (g 141 a1), vU, vU]) (rest := []) (pc' := 10) rfl k162_7 rfl (hy4 rfl rfl rfl rfl) rfl rfl hq_160 rfl (fun q2 => ?_)
  refine q_s (pc' := 11) (ls' := [vR 137, vI a1]) (st' := [vI 1, vI q2.1]) (g' := q2.2) k162_10 rfl rfl ?_
  refine q_ic (P := q2.1 ≠ 1) (t := 18) (pc' := 14) k162_11 Iff.rfl rfl rfl (fun h3 => ?_) (fun h3 => ?_)
  · refine q_s (pc' := 19) (ls' := [vR 137, vI a1]) (st' := [vR 137]) (g' := q2.2) k162_18 rfl rfl ?_
    refine q_s (pc' := 20) (ls' := [vR 137, vI a1]) (st' := [vR 137, vR 137]) (g' := q2.2) k162_19 rfl rfl ?_
    refine q_getF (r := 142) (pc' := 23) k162_20 rfl rfl rfl rfl ?_
    refine q_s (pc' := 24) (ls' := [vR 137, vI a1]) (st' := [vI a1, vR 142, vR 137]) (g' := q2.2) k162_23 rfl rfl ?_
    refine q_iald (n := 16) (pc' := 25) rfl k162_24 rfl rfl (fun h4 => ?_)
    refine q_callI (ls0 := [vR 137, vI (q2.2 142 a1), vU, vU]) (rest := []) (pc' := 28) rfl k162_25 rfl (hy4 rfl rfl rfl rfl) rfl rfl hq_161 rfl (fun q5 => ?_)
    refine q_s (pc' := 29) (ls' := [vR 137, vI a1]) (st' := [vI 1, vI q5.1]) (g' := q5.2) k162_28 rfl rfl ?_
    refine q_ic (P := q5.1 ≠ 1) (t := 36) (pc' := 32) k162_29 Iff.rfl rfl rfl (fun h6 => ?_) (fun h6 => ?_)
    · refine q_s (pc' := 37) (ls' := [vR 137, vI a1]) (st' := [vI 2]) (g' := q5.2) k162_36 rfl rfl ?_
      exact q_e k162_37 rfl rfl rfl
    · refine q_s (pc' := 33) (ls' := [vR 137, vI a1]) (st' := [vI 1]) (g' := q5.2) k162_32 rfl rfl ?_
      refine q_s (pc' := 37) (ls' := [vR 137, vI a1]) (st' := [vI 1]) (g' := q5.2) k162_33 rfl rfl ?_
      exact q_e k162_37 rfl rfl rfl
  · refine q_s (pc' := 15) (ls' := [vR 137, vI a1]) (st' := [vI 0]) (g' := q2.2) k162_14 rfl rfl ?_
    refine q_s (pc' := 37) (ls' := [vR 137, vI a1]) (st' := [vI 0]) (g' := q2.2) k162_15 rfl rfl ?_
    exact q_e k162_37 rfl rfl rfl
set_option maxHeartbeats 4000000 in
theorem jM_moves_eq (L : Nat) (a1 : Int) (a2 : Int) (g : AMem) : jM_moves L a1 a2 g = (jM_givenOf L a1 a2 g).bind (fun q1 => (jM_parameterOf L a1 a2 q1.2).bind (fun q2 => if q1.1 = q2.1 then (some (0, q2.2)) else (some (1, q2.2)))) := by
  unfold jM_moves
  refine q_s (pc' := 1) (ls' := [vR 137, vI a1, vI a2]) (st' := [vR 137]) (g' := g) k163_0 rfl rfl ?_
  refine q_s (pc' := 2) (ls' := [vR 137, vI a1, vI a2]) (st' := [vI a1, vR 137]) (g' := g) k163_1 rfl rfl ?_
  refine q_s (pc' := 3) (ls' := [vR 137, vI a1, vI a2]) (st' := [vI a2, vI a1, vR 137]) (g' := g) k163_2 rfl rfl ?_
  refine q_callI (ls0 := [vR 137, vI a1, vI a2]) (rest := []) (pc' := 6) rfl k163_3 rfl (hy4 rfl rfl rfl rfl) rfl rfl hq_147 rfl (fun q1 => ?_)
  refine q_s (pc' := 7) (ls' := [vR 137, vI a1, vI a2]) (st' := [vR 137, vI q1.1]) (g' := q1.2) k163_6 rfl rfl ?_
  refine q_s (pc' := 8) (ls' := [vR 137, vI a1, vI a2]) (st' := [vI a1, vR 137, vI q1.1]) (g' := q1.2) k163_7 rfl rfl ?_
  refine q_s (pc' := 9) (ls' := [vR 137, vI a1, vI a2]) (st' := [vI a2, vI a1, vR 137, vI q1.1]) (g' := q1.2) k163_8 rfl rfl ?_
  refine q_callI (ls0 := [vR 137, vI a1, vI a2]) (rest := [vI q1.1]) (pc' := 12) rfl k163_9 rfl (hy4 rfl rfl rfl rfl) rfl rfl hq_145 rfl (fun q2 => ?_)
  refine q_ic (P := q1.1 = q2.1) (t := 19) (pc' := 15) k163_12 Iff.rfl rfl rfl (fun h3 => ?_) (fun h3 => ?_)
  · refine q_s (pc' := 20) (ls' := [vR 137, vI a1, vI a2]) (st' := [vI 0]) (g' := q2.2) k163_19 rfl rfl ?_
    exact q_e k163_20 rfl rfl rfl
  · refine q_s (pc' := 16) (ls' := [vR 137, vI a1, vI a2]) (st' := [vI 1]) (g' := q2.2) k163_15 rfl rfl ?_
    refine q_s (pc' := 20) (ls' := [vR 137, vI a1, vI a2]) (st' := [vI 1]) (g' := q2.2) k163_16 rfl rfl ?_
    exact q_e k163_20 rfl rfl rfl
set_option maxHeartbeats 4000000 in
theorem jM_isAcross_eq (L : Nat) (a1 : Int) (a2 : Int) (g : AMem) : jM_isAcross L a1 a2 g = jM_isAcross_5 L a1 a2 0 0 vU g := by
  unfold jM_isAcross
  refine q_s (pc' := 1) (ls' := [vR 137, vI a1, vI a2, vU, vU, vU]) (st' := [vI 0]) (g' := g) k164_0 rfl rfl ?_
  refine q_s (pc' := 2) (ls' := [vR 137, vI a1, vI a2, vI 0, vU, vU]) (st' := []) (g' := g) k164_1 rfl rfl ?_
  refine q_s (pc' := 3) (ls' := [vR 137, vI a1, vI a2, vI 0, vU, vU]) (st' := [vI 0]) (g' := g) k164_2 rfl rfl ?_
  refine q_s (pc' := 5) (ls' := [vR 137, vI a1, vI a2, vI 0, vI 0, vU]) (st' := []) (g' := g) k164_3 rfl rfl ?_
  rfl
set_option maxHeartbeats 4000000 in
theorem jM_isAcross_5_eq (L : Nat) (l1 : Int) (l2 : Int) (l3 : Int) (l4 : Int) (w5 : AVal) (g : AMem) : jM_isAcross_5 L l1 l2 l3 l4 w5 g = (jM_manyOf L l1 g).bind (fun q1 => if q1.1 ≤ l4 then (if l3 = 0 ∨ l3 = 1 then some (l3, q1.2) else none) else ((jM_parameterOf L l1 l4 q1.2).bind (fun q3 => (jM_across L q3.1 l2 q3.2).bind (fun q4 => if q4.1 ≠ 0 then (if l3 ≠ 0 then (jM_isAcross_5 L l1 l2 1 (iw (l4 + 1)) (vI 1) q4.2) else ((jM_moves L l1 l4 q4.2).bind (fun q7 => if q7.1 = 0 then (jM_isAcross_5 L l1 l2 0 (iw (l4 + 1)) (vI 1) q7.2) else (jM_isAcross_5 L l1 l2 1 (iw (l4 + 1)) (vI 1) q7.2)))) else ((jM_givenOf L l1 l4 q4.2).bind (fun q9 => if q9.1 ≤ 0 then (if l3 ≠ 0 then (jM_isAcross_5 L l1 l2 1 (iw (l4 + 1)) (vI 0) q9.2) else ((jM_moves L l1 l4 q9.2).bind (fun q12 => if q12.1 = 0 then (jM_isAcross_5 L l1 l2 0 (iw (l4 + 1)) (vI 0) q12.2) else (jM_isAcross_5 L l1 l2 0 (iw (l4 + 1)) (vI 0) q12.2)))) else ((jM_givenOf L l1 l4 q9.2).bind (fun q14 => (jM_across L q14.1 l2 q14.2).bind (fun q15 => if q15.1 = 0 then (if l3 ≠ 0 then (jM_isAcross_5 L l1 l2 1 (iw (l4 + 1)) (vI 0) q15.2) else ((jM_moves L l1 l4 q15.2).bind (fun q18 => if q18.1 = 0 then (jM_isAcross_5 L l1 l2 0 (iw (l4 + 1)) (vI 0) q18.2) else (jM_isAcross_5 L l1 l2 0 (iw (l4 + 1)) (vI 0) q18.2)))) else (if l3 ≠ 0 then (jM_isAcross_5 L l1 l2 1 (iw (l4 + 1)) (vI 1) q15.2) else ((jM_moves L l1 l4 q15.2).bind (fun q21 => if q21.1 = 0 then (jM_isAcross_5 L l1 l2 0 (iw (l4 + 1)) (vI 1) q21.2) else (jM_isAcross_5 L l1 l2 1 (iw (l4 + 1)) (vI 1) q21.2))))))))))))) := by
  unfold jM_isAcross_5
  refine q_s (pc' := 7) (ls' := [vR 137, vI l1, vI l2, vI l3, vI l4, w5]) (st' := [vI l4]) (g' := g) k164_5 rfl rfl ?_
  refine q_s (pc' := 8) (ls' := [vR 137, vI l1, vI l2, vI l3, vI l4, w5]) (st' := [vR 137, vI l4]) (g' := g) k164_7 rfl rfl ?_
  refine q_s (pc' := 9) (ls' := [vR 137, vI l1, vI l2, vI l3, vI l4, w5]) (st' := [vI l1, vR 137, vI l4]) (g' := g) k164_8 rfl rfl ?_
  refine q_callI (ls0 := [vR 137, vI l1]) (rest := [vI l4]) (pc' := 12) rfl k164_9 rfl (hy4 rfl rfl rfl rfl) rfl rfl hq_146 rfl (fun q1 => ?_)
  refine q_ic (P := q1.1 ≤ l4) (t := 91) (pc' := 15) k164_12 Iff.rfl rfl rfl (fun h2 => ?_) (fun h2 => ?_)
  · refine q_s (pc' := 92) (ls' := [vR 137, vI l1, vI l2, vI l3, vI l4, w5]) (st' := [vI l3]) (g' := q1.2) k164_91 rfl rfl ?_
    exact q_eb rfl k164_92 rfl rfl
  · refine q_s (pc' := 16) (ls' := [vR 137, vI l1, vI l2, vI l3, vI l4, w5]) (st' := [vR 137]) (g' := q1.2) k164_15 rfl rfl ?_
    refine q_s (pc' := 17) (ls' := [vR 137, vI l1, vI l2, vI l3, vI l4, w5]) (st' := [vI l1, vR 137]) (g' := q1.2) k164_16 rfl rfl ?_
    refine q_s (pc' := 19) (ls' := [vR 137, vI l1, vI l2, vI l3, vI l4, w5]) (st' := [vI l4, vI l1, vR 137]) (g' := q1.2) k164_17 rfl rfl ?_
    refine q_callI (ls0 := [vR 137, vI l1, vI l4]) (rest := []) (pc' := 22) rfl k164_19 rfl (hy4 rfl rfl rfl rfl) rfl rfl hq_145 rfl (fun q3 => ?_)
    refine q_s (pc' := 23) (ls' := [vR 137, vI l1, vI l2, vI l3, vI l4, w5]) (st' := [vI l2, vI q3.1]) (g' := q3.2) k164_22 rfl rfl ?_
    refine q_callI (ls0 := [vI q3.1, vI l2]) (rest := []) (pc' := 26) rfl k164_23 rfl (hy4 rfl rfl rfl rfl) rfl rfl hq_142 rfl (fun q4 => ?_)
    refine q_if (P := q4.1 ≠ 0) (t := 53) (pc' := 29) k164_26 Iff.rfl rfl rfl (fun h5 => ?_) (fun h5 => ?_)
    · refine q_s (pc' := 54) (ls' := [vR 137, vI l1, vI l2, vI l3, vI l4, w5]) (st' := [vI 1]) (g' := q4.2) k164_53 rfl rfl ?_
      refine q_s (pc' := 58) (ls' := [vR 137, vI l1, vI l2, vI l3, vI l4, w5]) (st' := [vI 1]) (g' := q4.2) k164_54 rfl rfl ?_
      refine q_s (pc' := 60) (ls' := [vR 137, vI l1, vI l2, vI l3, vI l4, vI 1]) (st' := []) (g' := q4.2) k164_58 rfl rfl ?_
      refine q_s (pc' := 61) (ls' := [vR 137, vI l1, vI l2, vI l3, vI l4, vI 1]) (st' := [vI l3]) (g' := q4.2) k164_60 rfl rfl ?_
      refine q_if (P := l3 ≠ 0) (t := 79) (pc' := 64) k164_61 Iff.rfl rfl rfl (fun h6 => ?_) (fun h6 => ?_)
      · refine q_s (pc' := 80) (ls' := [vR 137, vI l1, vI l2, vI l3, vI l4, vI 1]) (st' := [vI 1]) (g' := q4.2) k164_79 rfl rfl ?_
        refine q_s (pc' := 84) (ls' := [vR 137, vI l1, vI l2, vI l3, vI l4, vI 1]) (st' := [vI 1]) (g' := q4.2) k164_80 rfl rfl ?_
        refine q_s (pc' := 85) (ls' := [vR 137, vI l1, vI l2, vI 1, vI l4, vI 1]) (st' := []) (g' := q4.2) k164_84 rfl rfl ?_
        refine q_s (pc' := 88) (ls' := [vR 137, vI l1, vI l2, vI 1, vI (iw (l4 + 1)), vI 1]) (st' := []) (g' := q4.2) k164_85 rfl rfl ?_
        refine q_s (pc' := 5) (ls' := [vR 137, vI l1, vI l2, vI 1, vI (iw (l4 + 1)), vI 1]) (st' := []) (g' := q4.2) k164_88 rfl rfl ?_
        rfl
      · refine q_s (pc' := 65) (ls' := [vR 137, vI l1, vI l2, vI l3, vI l4, vI 1]) (st' := [vR 137]) (g' := q4.2) k164_64 rfl rfl ?_
        refine q_s (pc' := 66) (ls' := [vR 137, vI l1, vI l2, vI l3, vI l4, vI 1]) (st' := [vI l1, vR 137]) (g' := q4.2) k164_65 rfl rfl ?_
        refine q_s (pc' := 68) (ls' := [vR 137, vI l1, vI l2, vI l3, vI l4, vI 1]) (st' := [vI l4, vI l1, vR 137]) (g' := q4.2) k164_66 rfl rfl ?_
        refine q_callI (ls0 := [vR 137, vI l1, vI l4]) (rest := []) (pc' := 71) rfl k164_68 rfl (hy4 rfl rfl rfl rfl) rfl rfl hq_163 rfl (fun q7 => ?_)
        refine q_if (P := q7.1 = 0) (t := 83) (pc' := 74) k164_71 Iff.rfl rfl rfl (fun h8 => ?_) (fun h8 => ?_)
        · refine q_s (pc' := 84) (ls' := [vR 137, vI l1, vI l2, vI l3, vI l4, vI 1]) (st' := [vI 0]) (g' := q7.2) k164_83 rfl rfl ?_
          refine q_s (pc' := 85) (ls' := [vR 137, vI l1, vI l2, vI 0, vI l4, vI 1]) (st' := []) (g' := q7.2) k164_84 rfl rfl ?_
          refine q_s (pc' := 88) (ls' := [vR 137, vI l1, vI l2, vI 0, vI (iw (l4 + 1)), vI 1]) (st' := []) (g' := q7.2) k164_85 rfl rfl ?_
          refine q_s (pc' := 5) (ls' := [vR 137, vI l1, vI l2, vI 0, vI (iw (l4 + 1)), vI 1]) (st' := []) (g' := q7.2) k164_88 rfl rfl ?_
          rfl
        · refine q_s (pc' := 76) (ls' := [vR 137, vI l1, vI l2, vI l3, vI l4, vI 1]) (st' := [vI 1]) (g' := q7.2) k164_74 rfl rfl ?_
          refine q_s (pc' := 79) (ls' := [vR 137, vI l1, vI l2, vI l3, vI l4, vI 1]) (st' := []) (g' := q7.2) k164_76 rfl rfl ?_
          refine q_s (pc' := 80) (ls' := [vR 137, vI l1, vI l2, vI l3, vI l4, vI 1]) (st' := [vI 1]) (g' := q7.2) k164_79 rfl rfl ?_
          refine q_s (pc' := 84) (ls' := [vR 137, vI l1, vI l2, vI l3, vI l4, vI 1]) (st' := [vI 1]) (g' := q7.2) k164_80 rfl rfl ?_
          refine q_s (pc' := 85) (ls' := [vR 137, vI l1, vI l2, vI 1, vI l4, vI 1]) (st' := []) (g' := q7.2) k164_84 rfl rfl ?_
          refine q_s (pc' := 88) (ls' := [vR 137, vI l1, vI l2, vI 1, vI (iw (l4 + 1)), vI 1]) (st' := []) (g' := q7.2) k164_85 rfl rfl ?_
          refine q_s (pc' := 5) (ls' := [vR 137, vI l1, vI l2, vI 1, vI (iw (l4 + 1)), vI 1]) (st' := []) (g' := q7.2) k164_88 rfl rfl ?_
          rfl
    · refine q_s (pc' := 30) (ls' := [vR 137, vI l1, vI l2, vI l3, vI l4, w5]) (st' := [vR 137]) (g' := q4.2) k164_29 rfl rfl ?_
      refine q_s (pc' := 31) (ls' := [vR 137, vI l1, vI l2, vI l3, vI l4, w5]) (st' := [vI l1, vR 137]) (g' := q4.2) k164_30 rfl rfl ?_
      refine q_s (pc' := 33) (ls' := [vR 137, vI l1, vI l2, vI l3, vI l4, w5]) (st' := [vI l4, vI l1, vR 137]) (g' := q4.2) k164_31 rfl rfl ?_
      refine q_callI (ls0 := [vR 137, vI l1, vI l4]) (rest := []) (pc' := 36) rfl k164_33 rfl (hy4 rfl rfl rfl rfl) rfl rfl hq_147 rfl (fun q9 => ?_)
      refine q_if (P := q9.1 ≤ 0) (t := 57) (pc' := 39) k164_36 Iff.rfl rfl rfl (fun h10 => ?_) (fun h10 => ?_)
      · refine q_s (pc' := 58) (ls' := [vR 137, vI l1, vI l2, vI l3, vI l4, w5]) (st' := [vI 0]) (g' := q9.2) k164_57 rfl rfl ?_
        refine q_s (pc' := 60) (ls' := [vR 137, vI l1, vI l2, vI l3, vI l4, vI 0]) (st' := []) (g' := q9.2) k164_58 rfl rfl ?_
        refine q_s (pc' := 61) (ls' := [vR 137, vI l1, vI l2, vI l3, vI l4, vI 0]) (st' := [vI l3]) (g' := q9.2) k164_60 rfl rfl ?_
        refine q_if (P := l3 ≠ 0) (t := 79) (pc' := 64) k164_61 Iff.rfl rfl rfl (fun h11 => ?_) (fun h11 => ?_)
        · refine q_s (pc' := 80) (ls' := [vR 137, vI l1, vI l2, vI l3, vI l4, vI 0]) (st' := [vI 1]) (g' := q9.2) k164_79 rfl rfl ?_
          refine q_s (pc' := 84) (ls' := [vR 137, vI l1, vI l2, vI l3, vI l4, vI 0]) (st' := [vI 1]) (g' := q9.2) k164_80 rfl rfl ?_
          refine q_s (pc' := 85) (ls' := [vR 137, vI l1, vI l2, vI 1, vI l4, vI 0]) (st' := []) (g' := q9.2) k164_84 rfl rfl ?_
          refine q_s (pc' := 88) (ls' := [vR 137, vI l1, vI l2, vI 1, vI (iw (l4 + 1)), vI 0]) (st' := []) (g' := q9.2) k164_85 rfl rfl ?_
          refine q_s (pc' := 5) (ls' := [vR 137, vI l1, vI l2, vI 1, vI (iw (l4 + 1)), vI 0]) (st' := []) (g' := q9.2) k164_88 rfl rfl ?_
          rfl
        · refine q_s (pc' := 65) (ls' := [vR 137, vI l1, vI l2, vI l3, vI l4, vI 0]) (st' := [vR 137]) (g' := q9.2) k164_64 rfl rfl ?_
          refine q_s (pc' := 66) (ls' := [vR 137, vI l1, vI l2, vI l3, vI l4, vI 0]) (st' := [vI l1, vR 137]) (g' := q9.2) k164_65 rfl rfl ?_
          refine q_s (pc' := 68) (ls' := [vR 137, vI l1, vI l2, vI l3, vI l4, vI 0]) (st' := [vI l4, vI l1, vR 137]) (g' := q9.2) k164_66 rfl rfl ?_
          refine q_callI (ls0 := [vR 137, vI l1, vI l4]) (rest := []) (pc' := 71) rfl k164_68 rfl (hy4 rfl rfl rfl rfl) rfl rfl hq_163 rfl (fun q12 => ?_)
          refine q_if (P := q12.1 = 0) (t := 83) (pc' := 74) k164_71 Iff.rfl rfl rfl (fun h13 => ?_) (fun h13 => ?_)
          · refine q_s (pc' := 84) (ls' := [vR 137, vI l1, vI l2, vI l3, vI l4, vI 0]) (st' := [vI 0]) (g' := q12.2) k164_83 rfl rfl ?_
            refine q_s (pc' := 85) (ls' := [vR 137, vI l1, vI l2, vI 0, vI l4, vI 0]) (st' := []) (g' := q12.2) k164_84 rfl rfl ?_
            refine q_s (pc' := 88) (ls' := [vR 137, vI l1, vI l2, vI 0, vI (iw (l4 + 1)), vI 0]) (st' := []) (g' := q12.2) k164_85 rfl rfl ?_
            refine q_s (pc' := 5) (ls' := [vR 137, vI l1, vI l2, vI 0, vI (iw (l4 + 1)), vI 0]) (st' := []) (g' := q12.2) k164_88 rfl rfl ?_
            rfl
          · refine q_s (pc' := 76) (ls' := [vR 137, vI l1, vI l2, vI l3, vI l4, vI 0]) (st' := [vI 0]) (g' := q12.2) k164_74 rfl rfl ?_
            refine q_s (pc' := 83) (ls' := [vR 137, vI l1, vI l2, vI l3, vI l4, vI 0]) (st' := []) (g' := q12.2) k164_76 rfl rfl ?_
            refine q_s (pc' := 84) (ls' := [vR 137, vI l1, vI l2, vI l3, vI l4, vI 0]) (st' := [vI 0]) (g' := q12.2) k164_83 rfl rfl ?_
            refine q_s (pc' := 85) (ls' := [vR 137, vI l1, vI l2, vI 0, vI l4, vI 0]) (st' := []) (g' := q12.2) k164_84 rfl rfl ?_
            refine q_s (pc' := 88) (ls' := [vR 137, vI l1, vI l2, vI 0, vI (iw (l4 + 1)), vI 0]) (st' := []) (g' := q12.2) k164_85 rfl rfl ?_
            refine q_s (pc' := 5) (ls' := [vR 137, vI l1, vI l2, vI 0, vI (iw (l4 + 1)), vI 0]) (st' := []) (g' := q12.2) k164_88 rfl rfl ?_
            rfl
      · refine q_s (pc' := 40) (ls' := [vR 137, vI l1, vI l2, vI l3, vI l4, w5]) (st' := [vR 137]) (g' := q9.2) k164_39 rfl rfl ?_
        refine q_s (pc' := 41) (ls' := [vR 137, vI l1, vI l2, vI l3, vI l4, w5]) (st' := [vI l1, vR 137]) (g' := q9.2) k164_40 rfl rfl ?_
        refine q_s (pc' := 43) (ls' := [vR 137, vI l1, vI l2, vI l3, vI l4, w5]) (st' := [vI l4, vI l1, vR 137]) (g' := q9.2) k164_41 rfl rfl ?_
        refine q_callI (ls0 := [vR 137, vI l1, vI l4]) (rest := []) (pc' := 46) rfl k164_43 rfl (hy4 rfl rfl rfl rfl) rfl rfl hq_147 rfl (fun q14 => ?_)
        refine q_s (pc' := 47) (ls' := [vR 137, vI l1, vI l2, vI l3, vI l4, w5]) (st' := [vI l2, vI q14.1]) (g' := q14.2) k164_46 rfl rfl ?_
        refine q_callI (ls0 := [vI q14.1, vI l2]) (rest := []) (pc' := 50) rfl k164_47 rfl (hy4 rfl rfl rfl rfl) rfl rfl hq_142 rfl (fun q15 => ?_)
        refine q_if (P := q15.1 = 0) (t := 57) (pc' := 53) k164_50 Iff.rfl rfl rfl (fun h16 => ?_) (fun h16 => ?_)
        · refine q_s (pc' := 58) (ls' := [vR 137, vI l1, vI l2, vI l3, vI l4, w5]) (st' := [vI 0]) (g' := q15.2) k164_57 rfl rfl ?_
          refine q_s (pc' := 60) (ls' := [vR 137, vI l1, vI l2, vI l3, vI l4, vI 0]) (st' := []) (g' := q15.2) k164_58 rfl rfl ?_
          refine q_s (pc' := 61) (ls' := [vR 137, vI l1, vI l2, vI l3, vI l4, vI 0]) (st' := [vI l3]) (g' := q15.2) k164_60 rfl rfl ?_
          refine q_if (P := l3 ≠ 0) (t := 79) (pc' := 64) k164_61 Iff.rfl rfl rfl (fun h17 => ?_) (fun h17 => ?_)
          · refine q_s (pc' := 80) (ls' := [vR 137, vI l1, vI l2, vI l3, vI l4, vI 0]) (st' := [vI 1]) (g' := q15.2) k164_79 rfl rfl ?_
            refine q_s (pc' := 84) (ls' := [vR 137, vI l1, vI l2, vI l3, vI l4, vI 0]) (st' := [vI 1]) (g' := q15.2) k164_80 rfl rfl ?_
            refine q_s (pc' := 85) (ls' := [vR 137, vI l1, vI l2, vI 1, vI l4, vI 0]) (st' := []) (g' := q15.2) k164_84 rfl rfl ?_
            refine q_s (pc' := 88) (ls' := [vR 137, vI l1, vI l2, vI 1, vI (iw (l4 + 1)), vI 0]) (st' := []) (g' := q15.2) k164_85 rfl rfl ?_
            refine q_s (pc' := 5) (ls' := [vR 137, vI l1, vI l2, vI 1, vI (iw (l4 + 1)), vI 0]) (st' := []) (g' := q15.2) k164_88 rfl rfl ?_
            rfl
          · refine q_s (pc' := 65) (ls' := [vR 137, vI l1, vI l2, vI l3, vI l4, vI 0]) (st' := [vR 137]) (g' := q15.2) k164_64 rfl rfl ?_
            refine q_s (pc' := 66) (ls' := [vR 137, vI l1, vI l2, vI l3, vI l4, vI 0]) (st' := [vI l1, vR 137]) (g' := q15.2) k164_65 rfl rfl ?_
            refine q_s (pc' := 68) (ls' := [vR 137, vI l1, vI l2, vI l3, vI l4, vI 0]) (st' := [vI l4, vI l1, vR 137]) (g' := q15.2) k164_66 rfl rfl ?_
            refine q_callI (ls0 := [vR 137, vI l1, vI l4]) (rest := []) (pc' := 71) rfl k164_68 rfl (hy4 rfl rfl rfl rfl) rfl rfl hq_163 rfl (fun q18 => ?_)
            refine q_if (P := q18.1 = 0) (t := 83) (pc' := 74) k164_71 Iff.rfl rfl rfl (fun h19 => ?_) (fun h19 => ?_)
            · refine q_s (pc' := 84) (ls' := [vR 137, vI l1, vI l2, vI l3, vI l4, vI 0]) (st' := [vI 0]) (g' := q18.2) k164_83 rfl rfl ?_
              refine q_s (pc' := 85) (ls' := [vR 137, vI l1, vI l2, vI 0, vI l4, vI 0]) (st' := []) (g' := q18.2) k164_84 rfl rfl ?_
              refine q_s (pc' := 88) (ls' := [vR 137, vI l1, vI l2, vI 0, vI (iw (l4 + 1)), vI 0]) (st' := []) (g' := q18.2) k164_85 rfl rfl ?_
              refine q_s (pc' := 5) (ls' := [vR 137, vI l1, vI l2, vI 0, vI (iw (l4 + 1)), vI 0]) (st' := []) (g' := q18.2) k164_88 rfl rfl ?_
              rfl
            · refine q_s (pc' := 76) (ls' := [vR 137, vI l1, vI l2, vI l3, vI l4, vI 0]) (st' := [vI 0]) (g' := q18.2) k164_74 rfl rfl ?_
              refine q_s (pc' := 83) (ls' := [vR 137, vI l1, vI l2, vI l3, vI l4, vI 0]) (st' := []) (g' := q18.2) k164_76 rfl rfl ?_
              refine q_s (pc' := 84) (ls' := [vR 137, vI l1, vI l2, vI l3, vI l4, vI 0]) (st' := [vI 0]) (g' := q18.2) k164_83 rfl rfl ?_
              refine q_s (pc' := 85) (ls' := [vR 137, vI l1, vI l2, vI 0, vI l4, vI 0]) (st' := []) (g' := q18.2) k164_84 rfl rfl ?_
              refine q_s (pc' := 88) (ls' := [vR 137, vI l1, vI l2, vI 0, vI (iw (l4 + 1)), vI 0]) (st' := []) (g' := q18.2) k164_85 rfl rfl ?_
              refine q_s (pc' := 5) (ls' := [vR 137, vI l1, vI l2, vI 0, vI (iw (l4 + 1)), vI 0]) (st' := []) (g' := q18.2) k164_88 rfl rfl ?_
              rfl
        · refine q_s (pc' := 54) (ls' := [vR 137, vI l1, vI l2, vI l3, vI l4, w5]) (st' := [vI 1]) (g' := q15.2) k164_53 rfl rfl ?_
          refine q_s (pc' := 58) (ls' := [vR 137, vI l1, vI l2, vI l3, vI l4, w5]) (st' := [vI 1]) (g' := q15.2) k164_54 rfl rfl ?_
          refine q_s (pc' := 60) (ls' := [vR 137, vI l1, vI l2, vI l3, vI l4, vI 1]) (st' := []) (g' := q15.2) k164_58 rfl rfl ?_
          refine q_s (pc' := 61) (ls' := [vR 137, vI l1, vI l2, vI l3, vI l4, vI 1]) (st' := [vI l3]) (g' := q15.2) k164_60 rfl rfl ?_
          refine q_if (P := l3 ≠ 0) (t := 79) (pc' := 64) k164_61 Iff.rfl rfl rfl (fun h20 => ?_) (fun h20 => ?_)
          · refine q_s (pc' := 80) (ls' := [vR 137, vI l1, vI l2, vI l3, vI l4, vI 1]) (st' := [vI 1]) (g' := q15.2) k164_79 rfl rfl ?_
            refine q_s (pc' := 84) (ls' := [vR 137, vI l1, vI l2, vI l3, vI l4, vI 1]) (st' := [vI 1]) (g' := q15.2) k164_80 rfl rfl ?_
            refine q_s (pc' := 85) (ls' := [vR 137, vI l1, vI l2, vI 1, vI l4, vI 1]) (st' := []) (g' := q15.2) k164_84 rfl rfl ?_
            refine q_s (pc' := 88) (ls' := [vR 137, vI l1, vI l2, vI 1, vI (iw (l4 + 1)), vI 1]) (st' := []) (g' := q15.2) k164_85 rfl rfl ?_
            refine q_s (pc' := 5) (ls' := [vR 137, vI l1, vI l2, vI 1, vI (iw (l4 + 1)), vI 1]) (st' := []) (g' := q15.2) k164_88 rfl rfl ?_
            rfl
          · refine q_s (pc' := 65) (ls' := [vR 137, vI l1, vI l2, vI l3, vI l4, vI 1]) (st' := [vR 137]) (g' := q15.2) k164_64 rfl rfl ?_
            refine q_s (pc' := 66) (ls' := [vR 137, vI l1, vI l2, vI l3, vI l4, vI 1]) (st' := [vI l1, vR 137]) (g' := q15.2) k164_65 rfl rfl ?_
            refine q_s (pc' := 68) (ls' := [vR 137, vI l1, vI l2, vI l3, vI l4, vI 1]) (st' := [vI l4, vI l1, vR 137]) (g' := q15.2) k164_66 rfl rfl ?_
            refine q_callI (ls0 := [vR 137, vI l1, vI l4]) (rest := []) (pc' := 71) rfl k164_68 rfl (hy4 rfl rfl rfl rfl) rfl rfl hq_163 rfl (fun q21 => ?_)
            refine q_if (P := q21.1 = 0) (t := 83) (pc' := 74) k164_71 Iff.rfl rfl rfl (fun h22 => ?_) (fun h22 => ?_)
            · refine q_s (pc' := 84) (ls' := [vR 137, vI l1, vI l2, vI l3, vI l4, vI 1]) (st' := [vI 0]) (g' := q21.2) k164_83 rfl rfl ?_
              refine q_s (pc' := 85) (ls' := [vR 137, vI l1, vI l2, vI 0, vI l4, vI 1]) (st' := []) (g' := q21.2) k164_84 rfl rfl ?_
              refine q_s (pc' := 88) (ls' := [vR 137, vI l1, vI l2, vI 0, vI (iw (l4 + 1)), vI 1]) (st' := []) (g' := q21.2) k164_85 rfl rfl ?_
              refine q_s (pc' := 5) (ls' := [vR 137, vI l1, vI l2, vI 0, vI (iw (l4 + 1)), vI 1]) (st' := []) (g' := q21.2) k164_88 rfl rfl ?_
              rfl
            · refine q_s (pc' := 76) (ls' := [vR 137, vI l1, vI l2, vI l3, vI l4, vI 1]) (st' := [vI 1]) (g' := q21.2) k164_74 rfl rfl ?_
              refine q_s (pc' := 79) (ls' := [vR 137, vI l1, vI l2, vI l3, vI l4, vI 1]) (st' := []) (g' := q21.2) k164_76 rfl rfl ?_
              refine q_s (pc' := 80) (ls' := [vR 137, vI l1, vI l2, vI l3, vI l4, vI 1]) (st' := [vI 1]) (g' := q21.2) k164_79 rfl rfl ?_
              refine q_s (pc' := 84) (ls' := [vR 137, vI l1, vI l2, vI l3, vI l4, vI 1]) (st' := [vI 1]) (g' := q21.2) k164_80 rfl rfl ?_
              refine q_s (pc' := 85) (ls' := [vR 137, vI l1, vI l2, vI 1, vI l4, vI 1]) (st' := []) (g' := q21.2) k164_84 rfl rfl ?_
              refine q_s (pc' := 88) (ls' := [vR 137, vI l1, vI l2, vI 1, vI (iw (l4 + 1)), vI 1]) (st' := []) (g' := q21.2) k164_85 rfl rfl ?_
              refine q_s (pc' := 5) (ls' := [vR 137, vI l1, vI l2, vI 1, vI (iw (l4 + 1)), vI 1]) (st' := []) (g' := q21.2) k164_88 rfl rfl ?_
              rfl
set_option maxHeartbeats 4000000 in
theorem jM_isClear_eq (L : Nat) (a1 : Int) (g : AMem) : jM_isClear L a1 g = jM_isClear_4 L a1 1 0 g := by
  unfold jM_isClear
  refine q_s (pc' := 1) (ls' := [vR 137, vI a1, vU, vU]) (st' := [vI 1]) (g' := g) k165_0 rfl rfl ?_
  refine q_s (pc' := 2) (ls' := [vR 137, vI a1, vI 1, vU]) (st' := []) (g' := g) k165_1 rfl rfl ?_
  refine q_s (pc' := 3) (ls' := [vR 137, vI a1, vI 1, vU]) (st' := [vI 0]) (g' := g) k165_2 rfl rfl ?_
  refine q_s (pc' := 4) (ls' := [vR 137, vI a1, vI 1, vI 0]) (st' := []) (g' := g) k165_3 rfl rfl ?_
  rfl
set_option maxHeartbeats 4000000 in
theorem jM_isClear_4_eq (L : Nat) (l1 : Int) (l2 : Int) (l3 : Int) (g : AMem) : jM_isClear_4 L l1 l2 l3 g = (jM_manyOf L l1 g).bind (fun q1 => if q1.1 ≤ l3 then (if l2 = 0 ∨ l2 = 1 then some (l2, q1.2) else none) else ((jM_moves L l1 l3 q1.2).bind (fun q3 => if q3.1 = 0 then (jM_isClear_4 L l1 l2 (iw (l3 + 1)) q3.2) else (if l2 = 0 then (jM_isClear_4 L l1 0 (iw (l3 + 1)) q3.2) else ((jM_parameterOf L l1 l3 q3.2).bind (fun q6 => (jM_isAcross L l1 q6.1 q6.2).bind (fun q7 => if q7.1 ≠ 0 then (jM_isClear_4 L l1 0 (iw (l3 + 1)) q7.2) else ((jM_givenOf L l1 l3 q7.2).bind (fun q9 => if q9.1 < 0 then (jM_isClear_4 L l1 1 (iw (l3 + 1)) q9.2) else ((jM_givenOf L l1 l3 q9.2).bind (fun q11 => (jM_isAcross L l1 q11.1 q11.2).bind (fun q12 => if q12.1 ≠ 0 then (jM_isClear_4 L l1 0 (iw (l3 + 1)) q12.2) else (jM_isClear_4 L l1 1 (iw (l3 + 1)) q12.2))))))))))))) := by
  unfold jM_isClear_4
  refine q_s (pc' := 5) (ls' := [vR 137, vI l1, vI l2, vI l3]) (st' := [vI l3]) (g' := g) k165_4 rfl rfl ?_
  refine q_s (pc' := 6) (ls' := [vR 137, vI l1, vI l2, vI l3]) (st' := [vR 137, vI l3]) (g' := g) k165_5 rfl rfl ?_
  refine q_s (pc' := 7) (ls' := [vR 137, vI l1, vI l2, vI l3]) (st' := [vI l1, vR 137, vI l3]) (g' := g) k165_6 rfl rfl ?_
  refine q_callI (ls0 := [vR 137, vI l1]) (rest := [vI l3]) (pc' := 10) rfl k165_7 rfl (hy4 rfl rfl rfl rfl) rfl rfl hq_146 rfl (fun q1 => ?_)
  refine q_ic (P := q1.1 ≤ l3) (t := 75) (pc' := 13) k165_10 Iff.rfl rfl rfl (fun h2 => ?_) (fun h2 => ?_)
  · refine q_s (pc' := 76) (ls' := [vR 137, vI l1, vI l2, vI l3]) (st' := [vI l2]) (g' := q1.2) k165_75 rfl rfl ?_
    exact q_eb rfl k165_76 rfl rfl
  · refine q_s (pc' := 14) (ls' := [vR 137, vI l1, vI l2, vI l3]) (st' := [vR 137]) (g' := q1.2) k165_13 rfl rfl ?_
    refine q_s (pc' := 15) (ls' := [vR 137, vI l1, vI l2, vI l3]) (st' := [vI l1, vR 137]) (g' := q1.2) k165_14 rfl rfl ?_
    refine q_s (pc' := 16) (ls' := [vR 137, vI l1, vI l2, vI l3]) (st' := [vI l3, vI l1, vR 137]) (g' := q1.2) k165_15 rfl rfl ?_
    refine q_callI (ls0 := [vR 137, vI l1, vI l3]) (rest := []) (pc' := 19) rfl k165_16 rfl (hy4 rfl rfl rfl rfl) rfl rfl hq_163 rfl (fun q3 => ?_)
    refine q_if (P := q3.1 = 0) (t := 69) (pc' := 22) k165_19 Iff.rfl rfl rfl (fun h4 => ?_) (fun h4 => ?_)
    · refine q_s (pc' := 72) (ls' := [vR 137, vI l1, vI l2, vI (iw (l3 + 1))]) (st' := []) (g' := q3.2) k165_69 rfl rfl ?_
      refine q_s (pc' := 4) (ls' := [vR 137, vI l1, vI l2, vI (iw (l3 + 1))]) (st' := []) (g' := q3.2) k165_72 rfl rfl ?_
      rfl
    · refine q_s (pc' := 23) (ls' := [vR 137, vI l1, vI l2, vI l3]) (st' := [vI l2]) (g' := q3.2) k165_22 rfl rfl ?_
      refine q_if (P := l2 = 0) (t := 67) (pc' := 26) k165_23 Iff.rfl rfl rfl (fun h5 => ?_) (fun h5 => ?_)
      · refine q_s (pc' := 68) (ls' := [vR 137, vI l1, vI l2, vI l3]) (st' := [vI 0]) (g' := q3.2) k165_67 rfl rfl ?_
        refine q_s (pc' := 69) (ls' := [vR 137, vI l1, vI 0, vI l3]) (st' := []) (g' := q3.2) k165_68 rfl rfl ?_
        refine q_s (pc' := 72) (ls' := [vR 137, vI l1, vI 0, vI (iw (l3 + 1))]) (st' := []) (g' := q3.2) k165_69 rfl rfl ?_
        refine q_s (pc' := 4) (ls' := [vR 137, vI l1, vI 0, vI (iw (l3 + 1))]) (st' := []) (g' := q3.2) k165_72 rfl rfl ?_
        rfl
      · refine q_s (pc' := 27) (ls' := [vR 137, vI l1, vI l2, vI l3]) (st' := [vR 137]) (g' := q3.2) k165_26 rfl rfl ?_
        refine q_s (pc' := 28) (ls' := [vR 137, vI l1, vI l2, vI l3]) (st' := [vI l1, vR 137]) (g' := q3.2) k165_27 rfl rfl ?_
        refine q_s (pc' := 29) (ls' := [vR 137, vI l1, vI l2, vI l3]) (st' := [vR 137, vI l1, vR 137]) (g' := q3.2) k165_28 rfl rfl ?_
        refine q_s (pc' := 30) (ls' := [vR 137, vI l1, vI l2, vI l3]) (st' := [vI l1, vR 137, vI l1, vR 137]) (g' := q3.2) k165_29 rfl rfl ?_
        refine q_s (pc' := 31) (ls' := [vR 137, vI l1, vI l2, vI l3]) (st' := [vI l3, vI l1, vR 137, vI l1, vR 137]) (g' := q3.2) k165_30 rfl rfl ?_
        refine q_callI (ls0 := [vR 137, vI l1, vI l3]) (rest := [vI l1, vR 137]) (pc' := 34) rfl k165_31 rfl (hy4 rfl rfl rfl rfl) rfl rfl hq_145 rfl (fun q6 => ?_)
        refine q_callI (ls0 := [vR 137, vI l1, vI q6.1, vU, vU, vU]) (rest := []) (pc' := 37) rfl k165_34 rfl (hy4 rfl rfl rfl rfl) rfl rfl hq_164 rfl (fun q7 => ?_)
        refine q_if (P := q7.1 ≠ 0) (t := 67) (pc' := 40) k165_37 Iff.rfl rfl rfl (fun h8 => ?_) (fun h8 => ?_)
        · refine q_s (pc' := 68) (ls' := [vR 137, vI l1, vI l2, vI l3]) (st' := [vI 0]) (g' := q7.2) k165_67 rfl rfl ?_
          refine q_s (pc' := 69) (ls' := [vR 137, vI l1, vI 0, vI l3]) (st' := []) (g' := q7.2) k165_68 rfl rfl ?_
          refine q_s (pc' := 72) (ls' := [vR 137, vI l1, vI 0, vI (iw (l3 + 1))]) (st' := []) (g' := q7.2) k165_69 rfl rfl ?_
          refine q_s (pc' := 4) (ls' := [vR 137, vI l1, vI 0, vI (iw (l3 + 1))]) (st' := []) (g' := q7.2) k165_72 rfl rfl ?_
          rfl
        · refine q_s (pc' := 41) (ls' := [vR 137, vI l1, vI l2, vI l3]) (st' := [vR 137]) (g' := q7.2) k165_40 rfl rfl ?_
          refine q_s (pc' := 42) (ls' := [vR 137, vI l1, vI l2, vI l3]) (st' := [vI l1, vR 137]) (g' := q7.2) k165_41 rfl rfl ?_
          refine q_s (pc' := 43) (ls' := [vR 137, vI l1, vI l2, vI l3]) (st' := [vI l3, vI l1, vR 137]) (g' := q7.2) k165_42 rfl rfl ?_
          refine q_callI (ls0 := [vR 137, vI l1, vI l3]) (rest := []) (pc' := 46) rfl k165_43 rfl (hy4 rfl rfl rfl rfl) rfl rfl hq_147 rfl (fun q9 => ?_)
          refine q_if (P := q9.1 < 0) (t := 63) (pc' := 49) k165_46 Iff.rfl rfl rfl (fun h10 => ?_) (fun h10 => ?_)
          · refine q_s (pc' := 64) (ls' := [vR 137, vI l1, vI l2, vI l3]) (st' := [vI 1]) (g' := q9.2) k165_63 rfl rfl ?_
            refine q_s (pc' := 68) (ls' := [vR 137, vI l1, vI l2, vI l3]) (st' := [vI 1]) (g' := q9.2) k165_64 rfl rfl ?_
            refine q_s (pc' := 69) (ls' := [vR 137, vI l1, vI 1, vI l3]) (st' := []) (g' := q9.2) k165_68 rfl rfl ?_
            refine q_s (pc' := 72) (ls' := [vR 137, vI l1, vI 1, vI (iw (l3 + 1))]) (st' := []) (g' := q9.2) k165_69 rfl rfl ?_
            refine q_s (pc' := 4) (ls' := [vR 137, vI l1, vI 1, vI (iw (l3 + 1))]) (st' := []) (g' := q9.2) k165_72 rfl rfl ?_
            rfl
          · refine q_s (pc' := 50) (ls' := [vR 137, vI l1, vI l2, vI l3]) (st' := [vR 137]) (g' := q9.2) k165_49 rfl rfl ?_
            refine q_s (pc' := 51) (ls' := [vR 137, vI l1, vI l2, vI l3]) (st' := [vI l1, vR 137]) (g' := q9.2) k165_50 rfl rfl ?_
            refine q_s (pc' := 52) (ls' := [vR 137, vI l1, vI l2, vI l3]) (st' := [vR 137, vI l1, vR 137]) (g' := q9.2) k165_51 rfl rfl ?_
            refine q_s (pc' := 53) (ls' := [vR 137, vI l1, vI l2, vI l3]) (st' := [vI l1, vR 137, vI l1, vR 137]) (g' := q9.2) k165_52 rfl rfl ?_
            refine q_s (pc' := 54) (ls' := [vR 137, vI l1, vI l2, vI l3]) (st' := [vI l3, vI l1, vR 137, vI l1, vR 137]) (g' := q9.2) k165_53 rfl rfl ?_
            refine q_callI (ls0 := [vR 137, vI l1, vI l3]) (rest := [vI l1, vR 137]) (pc' := 57) rfl k165_54 rfl (hy4 rfl rfl rfl rfl) rfl rfl hq_147 rfl (fun q11 => ?_)
            refine q_callI (ls0 := [vR 137, vI l1, vI q11.1, vU, vU, vU]) (rest := []) (pc' := 60) rfl k165_57 rfl (hy4 rfl rfl rfl rfl) rfl rfl hq_164 rfl (fun q12 => ?_)
            refine q_if (P := q12.1 ≠ 0) (t := 67) (pc' := 63) k165_60 Iff.rfl rfl rfl (fun h13 => ?_) (fun h13 => ?_)
            · refine q_s (pc' := 68) (ls' := [vR 137, vI l1, vI l2, vI l3]) (st' := [vI 0]) (g' := q12.2) k165_67 rfl rfl ?_
              refine q_s (pc' := 69) (ls' := [vR 137, vI l1, vI 0, vI l3]) (st' := []) (g' := q12.2) k165_68 rfl rfl ?_
              refine q_s (pc' := 72) (ls' := [vR 137, vI l1, vI 0, vI (iw (l3 + 1))]) (st' := []) (g' := q12.2) k165_69 rfl rfl ?_
              refine q_s (pc' := 4) (ls' := [vR 137, vI l1, vI 0, vI (iw (l3 + 1))]) (st' := []) (g' := q12.2) k165_72 rfl rfl ?_
              rfl
            · refine q_s (pc' := 64) (ls' := [vR 137, vI l1, vI l2, vI l3]) (st' := [vI 1]) (g' := q12.2) k165_63 rfl rfl ?_
              refine q_s (pc' := 68) (ls' := [vR 137, vI l1, vI l2, vI l3]) (st' := [vI 1]) (g' := q12.2) k165_64 rfl rfl ?_
              refine q_s (pc' := 69) (ls' := [vR 137, vI l1, vI 1, vI l3]) (st' := []) (g' := q12.2) k165_68 rfl rfl ?_
              refine q_s (pc' := 72) (ls' := [vR 137, vI l1, vI 1, vI (iw (l3 + 1))]) (st' := []) (g' := q12.2) k165_69 rfl rfl ?_
              refine q_s (pc' := 4) (ls' := [vR 137, vI l1, vI 1, vI (iw (l3 + 1))]) (st' := []) (g' := q12.2) k165_72 rfl rfl ?_
              rfl
set_option maxHeartbeats 4000000 in
theorem jM_of_eq (L : Nat) (a1 : Int) (a2 : Int) (g : AMem) : jM_of L a1 a2 g = (jM_isEdge L a1 g).bind (fun q1 => if q1.1 = 0 then ((jM_bad L q1.2).bind (fun q3 => some (q3.1, q3.2))) else ((jM_in L a2 0 4 q1.2).bind (fun q4 => if q4.1 ≠ 0 then (if a2 = 0 then (if 0 ≤ a1 ∧ a1 < 16 then (some (q4.2 141 a1, q4.2)) else none) else (if a2 = 1 then (if 0 ≤ a1 ∧ a1 < 16 then (some (q4.2 142 a1, q4.2)) else none) else (if a2 = 2 then (if 0 ≤ a1 ∧ a1 < 16 then (some (q4.2 143 a1, q4.2)) else none) else (if a2 = 3 then ((jM_isClear L a1 q4.2).bind (fun q13 => if q13.1 = 0 then (some (0, q13.2)) else (some (1, q13.2)))) else ((jM_whereOf L a1 q4.2).bind (fun q15 => some (q15.1, q15.2))))))) else ((jM_bad L q4.2).bind (fun q16 => some (q16.1, q16.2)))))) := by
  unfold jM_of
  refine q_s (pc' := 1) (ls' := [vR 137, vI a1, vI a2]) (st' := [vR 137]) (g' := g) k166_0 rfl rfl ?_
  refine q_s (pc' := 2) (ls' := [vR 137, vI a1, vI a2]) (st' := [vI a1, vR 137]) (g' := g) k166_1 rfl rfl ?_
  refine q_callI (ls0 := [vR 137, vI a1]) (rest := []) (pc' := 5) rfl k166_2 rfl (hy4 rfl rfl rfl rfl) rfl rfl hq_144 rfl (fun q1 => ?_)
  refine q_if (P := q1.1 = 0) (t := 17) (pc' := 8) k166_5 Iff.rfl rfl rfl (fun h2 => ?_) (fun h2 => ?_)
  · refine q_s (pc' := 18) (ls' := [vR 137, vI a1, vI a2]) (st' := [vR 137]) (g' := q1.2) k166_17 rfl rfl ?_
    refine q_callI (ls0 := [vR 137]) (rest := []) (pc' := 21) rfl k166_18 rfl (hy4 rfl rfl rfl rfl) rfl rfl hq_133 rfl (fun q3 => ?_)
    exact q_e k166_21 rfl rfl rfl
  · refine q_s (pc' := 9) (ls' := [vR 137, vI a1, vI a2]) (st' := [vI a2]) (g' := q1.2) k166_8 rfl rfl ?_
    refine q_s (pc' := 10) (ls' := [vR 137, vI a1, vI a2]) (st' := [vI 0, vI a2]) (g' := q1.2) k166_9 rfl rfl ?_
    refine q_s (pc' := 11) (ls' := [vR 137, vI a1, vI a2]) (st' := [vI 4, vI 0, vI a2]) (g' := q1.2) k166_10 rfl rfl ?_
    refine q_callI (ls0 := [vI a2, vI 0, vI 4]) (rest := []) (pc' := 14) rfl k166_11 rfl (hy4 rfl rfl rfl rfl) rfl rfl hq_136 rfl (fun q4 => ?_)
    refine q_if (P := q4.1 ≠ 0) (t := 22) (pc' := 17) k166_14 Iff.rfl rfl rfl (fun h5 => ?_) (fun h5 => ?_)
    · refine q_s (pc' := 23) (ls' := [vR 137, vI a1, vI a2]) (st' := [vI a2]) (g' := q4.2) k166_22 rfl rfl ?_
      refine q_by (P := a2 = 0) (fun h6 => ?_) (fun h6 => ?_)
      · refine q_s (pc' := 52) (ls' := [vR 137, vI a1, vI a2]) (st' := []) (g' := q4.2) k166_23 rfl (e_top h6 rfl) ?_
        refine q_s (pc' := 53) (ls' := [vR 137, vI a1, vI a2]) (st' := [vR 137]) (g' := q4.2) k166_52 rfl rfl ?_
        refine q_getF (r := 141) (pc' := 56) k166_53 rfl rfl rfl rfl ?_
        refine q_s (pc' := 57) (ls' := [vR 137, vI a1, vI a2]) (st' := [vI a1, vR 141]) (g' := q4.2) k166_56 rfl rfl ?_
        refine q_iald (n := 16) (pc' := 58) rfl k166_57 rfl rfl (fun h7 => ?_)
        exact q_e k166_58 rfl rfl rfl
      · skip
        refine q_by (P := a2 = 1) (fun h8 => ?_) (fun h8 => ?_)
        · refine q_s (pc' := 59) (ls' := [vR 137, vI a1, vI a2]) (st' := []) (g' := q4.2) k166_23 rfl (e_top h8 rfl) ?_
          refine q_s (pc' := 60) (ls' := [vR 137, vI a1, vI a2]) (st' := [vR 137]) (g' := q4.2) k166_59 rfl rfl ?_
          refine q_getF (r := 142) (pc' := 63) k166_60 rfl rfl rfl rfl ?_
          refine q_s (pc' := 64) (ls' := [vR 137, vI a1, vI a2]) (st' := [vI a1, vR 142]) (g' := q4.2) k166_63 rfl rfl ?_
          refine q_iald (n := 16) (pc' := 65) rfl k166_64 rfl rfl (fun h9 => ?_)
          exact q_e k166_65 rfl rfl rfl
        · skip
          refine q_by (P := a2 = 2) (fun h10 => ?_) (fun h10 => ?_)
          · refine q_s (pc' := 66) (ls' := [vR 137, vI a1, vI a2]) (st' := []) (g' := q4.2) k166_23 rfl (e_top h10 rfl) ?_
            refine q_s (pc' := 67) (ls' := [vR 137, vI a1, vI a2]) (st' := [vR 137]) (g' := q4.2) k166_66 rfl rfl ?_
            refine q_getF (r := 143) (pc' := 70) k166_67 rfl rfl rfl rfl ?_
            refine q_s (pc' := 71) (ls' := [vR 137, vI a1, vI a2]) (st' := [vI a1, vR 143]) (g' := q4.2) k166_70 rfl rfl ?_
            refine q_iald (n := 16) (pc' := 72) rfl k166_71 rfl rfl (fun h11 => ?_)
            exact q_e k166_72 rfl rfl rfl
          · skip
            refine q_by (P := a2 = 3) (fun h12 => ?_) (fun h12 => ?_)
            · refine q_s (pc' := 73) (ls' := [vR 137, vI a1, vI a2]) (st' := []) (g' := q4.2) k166_23 rfl (e_top h12 rfl) ?_
              refine q_s (pc' := 74) (ls' := [vR 137, vI a1, vI a2]) (st' := [vR 137]) (g' := q4.2) k166_73 rfl rfl ?_
              refine q_s (pc' := 75) (ls' := [vR 137, vI a1, vI a2]) (st' := [vI a1, vR 137]) (g' := q4.2) k166_74 rfl rfl ?_
              refine q_callI (ls0 := [vR 137, vI a1, vU, vU]) (rest := []) (pc' := 78) rfl k166_75 rfl (hy4 rfl rfl rfl rfl) rfl rfl hq_165 rfl (fun q13 => ?_)
              refine q_if (P := q13.1 = 0) (t := 85) (pc' := 81) k166_78 Iff.rfl rfl rfl (fun h14 => ?_) (fun h14 => ?_)
              · refine q_s (pc' := 86) (ls' := [vR 137, vI a1, vI a2]) (st' := [vI 0]) (g' := q13.2) k166_85 rfl rfl ?_
                exact q_e k166_86 rfl rfl rfl
              · refine q_s (pc' := 82) (ls' := [vR 137, vI a1, vI a2]) (st' := [vI 1]) (g' := q13.2) k166_81 rfl rfl ?_
                refine q_s (pc' := 86) (ls' := [vR 137, vI a1, vI a2]) (st' := [vI 1]) (g' := q13.2) k166_82 rfl rfl ?_
                exact q_e k166_86 rfl rfl rfl
            · skip
              refine q_s (pc' := 87) (ls' := [vR 137, vI a1, vI a2]) (st' := []) (g' := q4.2) k166_23 rfl (e_tsw (by omega) (by decide)) ?_
              refine q_s (pc' := 88) (ls' := [vR 137, vI a1, vI a2]) (st' := [vR 137]) (g' := q4.2) k166_87 rfl rfl ?_
              refine q_s (pc' := 89) (ls' := [vR 137, vI a1, vI a2]) (st' := [vI a1, vR 137]) (g' := q4.2) k166_88 rfl rfl ?_
              refine q_callI (ls0 := [vR 137, vI a1]) (rest := []) (pc' := 92) rfl k166_89 rfl (hy4 rfl rfl rfl rfl) rfl rfl hq_162 rfl (fun q15 => ?_)
              exact q_e k166_92 rfl rfl rfl
    · refine q_s (pc' := 18) (ls' := [vR 137, vI a1, vI a2]) (st' := [vR 137]) (g' := q4.2) k166_17 rfl rfl ?_
      refine q_callI (ls0 := [vR 137]) (rest := []) (pc' := 21) rfl k166_18 rfl (hy4 rfl rfl rfl rfl) rfl rfl hq_133 rfl (fun q16 => ?_)
      exact q_e k166_21 rfl rfl rfl
set_option maxHeartbeats 4000000 in
theorem jM_about_eq (L : Nat) (a1 : Int) (a2 : Int) (g : AMem) : jM_about L a1 a2 g = (jM_isBlock L a1 g).bind (fun q1 => if q1.1 = 0 then ((jM_bad L q1.2).bind (fun q3 => some (q3.1, q3.2))) else ((jM_in L a2 0 2 q1.2).bind (fun q4 => if q4.1 ≠ 0 then (if a2 ≠ 0 then (if a2 ≠ 1 then ((jM_edgesTo L a1 q4.2).bind (fun q8 => some (q8.1, q8.2))) else ((jM_edgesFrom L a1 q4.2).bind (fun q9 => some (q9.1, q9.2)))) else (if 0 ≤ a1 ∧ a1 < 10 then (some (q4.2 139 a1, q4.2)) else none)) else ((jM_bad L q4.2).bind (fun q11 => some (q11.1, q11.2)))))) := by
  unfold jM_about
  refine q_s (pc' := 1) (ls' := [vR 137, vI a1, vI a2]) (st' := [vR 137]) (g' := g) k167_0 rfl rfl ?_
  refine q_s (pc' := 2) (ls' := [vR 137, vI a1, vI a2]) (st' := [vI a1, vR 137]) (g' := g) k167_1 rfl rfl ?_
  refine q_callI (ls0 := [vR 137, vI a1]) (rest := []) (pc' := 5) rfl k167_2 rfl (hy4 rfl rfl rfl rfl) rfl rfl hq_143 rfl (fun q1 => ?_)
  refine q_if (P := q1.1 = 0) (t := 17) (pc' := 8) k167_5 Iff.rfl rfl rfl (fun h2 => ?_) (fun h2 => ?_)
  · refine q_s (pc' := 18) (ls' := [vR 137, vI a1, vI a2]) (st' := [vR 137]) (g' := q1.2) k167_17 rfl rfl ?_
    refine q_callI (ls0 := [vR 137]) (rest := []) (pc' := 21) rfl k167_18 rfl (hy4 rfl rfl rfl rfl) rfl rfl hq_133 rfl (fun q3 => ?_)
    exact q_e k167_21 rfl rfl rfl
  · refine q_s (pc' := 9) (ls' := [vR 137, vI a1, vI a2]) (st' := [vI a2]) (g' := q1.2) k167_8 rfl rfl ?_
    refine q_s (pc' := 10) (ls' := [vR 137, vI a1, vI a2]) (st' := [vI 0, vI a2]) (g' := q1.2) k167_9 rfl rfl ?_
    refine q_s (pc' := 11) (ls' := [vR 137, vI a1, vI a2]) (st' := [vI 2, vI 0, vI a2]) (g' := q1.2) k167_10 rfl rfl ?_
    refine q_callI (ls0 := [vI a2, vI 0, vI 2]) (rest := []) (pc' := 14) rfl k167_11 rfl (hy4 rfl rfl rfl rfl) rfl rfl hq_136 rfl (fun q4 => ?_)
    refine q_if (P := q4.1 ≠ 0) (t := 22) (pc' := 17) k167_14 Iff.rfl rfl rfl (fun h5 => ?_) (fun h5 => ?_)
    · refine q_s (pc' := 23) (ls' := [vR 137, vI a1, vI a2]) (st' := [vI a2]) (g' := q4.2) k167_22 rfl rfl ?_
      refine q_if (P := a2 ≠ 0) (t := 35) (pc' := 26) k167_23 Iff.rfl rfl rfl (fun h6 => ?_) (fun h6 => ?_)
      · refine q_s (pc' := 36) (ls' := [vR 137, vI a1, vI a2]) (st' := [vI a2]) (g' := q4.2) k167_35 rfl rfl ?_
        refine q_s (pc' := 37) (ls' := [vR 137, vI a1, vI a2]) (st' := [vI 1, vI a2]) (g' := q4.2) k167_36 rfl rfl ?_
        refine q_ic (P := a2 ≠ 1) (t := 48) (pc' := 40) k167_37 Iff.rfl rfl rfl (fun h7 => ?_) (fun h7 => ?_)
        · refine q_s (pc' := 49) (ls' := [vR 137, vI a1, vI a2]) (st' := [vR 137]) (g' := q4.2) k167_48 rfl rfl ?_
          refine q_s (pc' := 50) (ls' := [vR 137, vI a1, vI a2]) (st' := [vI a1, vR 137]) (g' := q4.2) k167_49 rfl rfl ?_
          refine q_callI (ls0 := [vR 137, vI a1, vU, vU]) (rest := []) (pc' := 53) rfl k167_50 rfl (hy4 rfl rfl rfl rfl) rfl rfl hq_161 rfl (fun q8 => ?_)
          exact q_e k167_53 rfl rfl rfl
        · refine q_s (pc' := 41) (ls' := [vR 137, vI a1, vI a2]) (st' := [vR 137]) (g' := q4.2) k167_40 rfl rfl ?_
          refine q_s (pc' := 42) (ls' := [vR 137, vI a1, vI a2]) (st' := [vI a1, vR 137]) (g' := q4.2) k167_41 rfl rfl ?_
          refine q_callI (ls0 := [vR 137, vI a1, vU, vU]) (rest := []) (pc' := 45) rfl k167_42 rfl (hy4 rfl rfl rfl rfl) rfl rfl hq_160 rfl (fun q9 => ?_)
          refine q_s (pc' := 53) (ls' := [vR 137, vI a1, vI a2]) (st' := [vI q9.1]) (g' := q9.2) k167_45 rfl rfl ?_
          exact q_e k167_53 rfl rfl rfl
      · refine q_s (pc' := 27) (ls' := [vR 137, vI a1, vI a2]) (st' := [vR 137]) (g' := q4.2) k167_26 rfl rfl ?_
        refine q_getF (r := 139) (pc' := 30) k167_27 rfl rfl rfl rfl ?_
        refine q_s (pc' := 31) (ls' := [vR 137, vI a1, vI a2]) (st' := [vI a1, vR 139]) (g' := q4.2) k167_30 rfl rfl ?_
        refine q_iald (n := 10) (pc' := 32) rfl k167_31 rfl rfl (fun h10 => ?_)
        refine q_s (pc' := 53) (ls' := [vR 137, vI a1, vI a2]) (st' := [vI (q4.2 139 a1)]) (g' := q4.2) k167_32 rfl rfl ?_
        exact q_e k167_53 rfl rfl rfl
    · refine q_s (pc' := 18) (ls' := [vR 137, vI a1, vI a2]) (st' := [vR 137]) (g' := q4.2) k167_17 rfl rfl ?_
      refine q_callI (ls0 := [vR 137]) (rest := []) (pc' := 21) rfl k167_18 rfl (hy4 rfl rfl rfl rfl) rfl rfl hq_133 rfl (fun q11 => ?_)
      exact q_e k167_21 rfl rfl rfl
set_option maxHeartbeats 4000000 in
theorem jM_region_eq (L : Nat) (a1 : Int) (a2 : Int) (g : AMem) : jM_region L a1 a2 g = (jM_isBlock L a1 g).bind (fun q1 => if q1.1 = 0 then ((jM_bad L q1.2).bind (fun q3 => some (q3.1, q3.2))) else (if 0 ≤ a2 then (if 0 ≤ a1 ∧ a1 < 10 then (if q1.2 139 a1 ≤ a2 then (some ((-201), q1.2)) else (if 0 ≤ iw ((iw (6 * a1)) + a2) ∧ iw ((iw (6 * a1)) + a2) < 60 then (some (q1.2 140 (iw ((iw (6 * a1)) + a2)), q1.2)) else none)) else none) else ((jM_bad L q1.2).bind (fun q8 => some (q8.1, q8.2))))) := by
  unfold jM_region
  refine q_s (pc' := 1) (ls' := [vR 137, vI a1, vI a2]) (st' := [vR 137]) (g' := g) k168_0 rfl rfl ?_
  refine q_s (pc' := 2) (ls' := [vR 137, vI a1, vI a2]) (st' := [vI a1, vR 137]) (g' := g) k168_1 rfl rfl ?_
  refine q_callI (ls0 := [vR 137, vI a1]) (rest := []) (pc' := 5) rfl k168_2 rfl (hy4 rfl rfl rfl rfl) rfl rfl hq_143 rfl (fun q1 => ?_)
  refine q_if (P := q1.1 = 0) (t := 12) (pc' := 8) k168_5 Iff.rfl rfl rfl (fun h2 => ?_) (fun h2 => ?_)
  · refine q_s (pc' := 13) (ls' := [vR 137, vI a1, vI a2]) (st' := [vR 137]) (g' := q1.2) k168_12 rfl rfl ?_
    refine q_callI (ls0 := [vR 137]) (rest := []) (pc' := 16) rfl k168_13 rfl (hy4 rfl rfl rfl rfl) rfl rfl hq_133 rfl (fun q3 => ?_)
    exact q_e k168_16 rfl rfl rfl
  · refine q_s (pc' := 9) (ls' := [vR 137, vI a1, vI a2]) (st' := [vI a2]) (g' := q1.2) k168_8 rfl rfl ?_
    refine q_if (P := 0 ≤ a2) (t := 17) (pc' := 12) k168_9 Iff.rfl rfl rfl (fun h4 => ?_) (fun h4 => ?_)
    · refine q_s (pc' := 18) (ls' := [vR 137, vI a1, vI a2]) (st' := [vI a2]) (g' := q1.2) k168_17 rfl rfl ?_
      refine q_s (pc' := 19) (ls' := [vR 137, vI a1, vI a2]) (st' := [vR 137, vI a2]) (g' := q1.2) k168_18 rfl rfl ?_
      refine q_getF (r := 139) (pc' := 22) k168_19 rfl rfl rfl rfl ?_
      refine q_s (pc' := 23) (ls' := [vR 137, vI a1, vI a2]) (st' := [vI a1, vR 139, vI a2]) (g' := q1.2) k168_22 rfl rfl ?_
      refine q_iald (n := 10) (pc' := 24) rfl k168_23 rfl rfl (fun h5 => ?_)
      refine q_ic (P := q1.2 139 a1 ≤ a2) (t := 41) (pc' := 27) k168_24 Iff.rfl rfl rfl (fun h6 => ?_) (fun h6 => ?_)
      · refine q_s (pc' := 44) (ls' := [vR 137, vI a1, vI a2]) (st' := [vI (-201)]) (g' := q1.2) k168_41 rfl rfl ?_
        exact q_e k168_44 rfl rfl rfl
      · refine q_s (pc' := 28) (ls' := [vR 137, vI a1, vI a2]) (st' := [vR 137]) (g' := q1.2) k168_27 rfl rfl ?_
        refine q_getF (r := 140) (pc' := 31) k168_28 rfl rfl rfl rfl ?_
        refine q_s (pc' := 33) (ls' := [vR 137, vI a1, vI a2]) (st' := [vI 6, vR 140]) (g' := q1.2) k168_31 rfl rfl ?_
        refine q_s (pc' := 34) (ls' := [vR 137, vI a1, vI a2]) (st' := [vI a1, vI 6, vR 140]) (g' := q1.2) k168_33 rfl rfl ?_
        refine q_s (pc' := 35) (ls' := [vR 137, vI a1, vI a2]) (st' := [vI (iw (6 * a1)), vR 140]) (g' := q1.2) k168_34 rfl rfl ?_
        refine q_s (pc' := 36) (ls' := [vR 137, vI a1, vI a2]) (st' := [vI a2, vI (iw (6 * a1)), vR 140]) (g' := q1.2) k168_35 rfl rfl ?_
        refine q_s (pc' := 37) (ls' := [vR 137, vI a1, vI a2]) (st' := [vI (iw ((iw (6 * a1)) + a2)), vR 140]) (g' := q1.2) k168_36 rfl rfl ?_
        refine q_iald (n := 60) (pc' := 38) rfl k168_37 rfl rfl (fun h7 => ?_)
        refine q_s (pc' := 44) (ls' := [vR 137, vI a1, vI a2]) (st' := [vI (q1.2 140 (iw ((iw (6 * a1)) + a2)))]) (g' := q1.2) k168_38 rfl rfl ?_
        exact q_e k168_44 rfl rfl rfl
    · refine q_s (pc' := 13) (ls' := [vR 137, vI a1, vI a2]) (st' := [vR 137]) (g' := q1.2) k168_12 rfl rfl ?_
      refine q_callI (ls0 := [vR 137]) (rest := []) (pc' := 16) rfl k168_13 rfl (hy4 rfl rfl rfl rfl) rfl rfl hq_133 rfl (fun q8 => ?_)
      exact q_e k168_16 rfl rfl rfl
set_option maxHeartbeats 4000000 in
theorem jM_given_eq (L : Nat) (a1 : Int) (a2 : Int) (g : AMem) : jM_given L a1 a2 g = (jM_isEdge L a1 g).bind (fun q1 => if q1.1 = 0 then ((jM_bad L q1.2).bind (fun q3 => some (q3.1, q3.2))) else (if 0 ≤ a2 then ((jM_manyOf L a1 q1.2).bind (fun q5 => if q5.1 ≤ a2 then (some ((-201), q5.2)) else ((jM_givenOf L a1 a2 q5.2).bind (fun q7 => some (q7.1, q7.2))))) else ((jM_bad L q1.2).bind (fun q8 => some (q8.1, q8.2))))) := by
  unfold jM_given
  refine q_s (pc' := 1) (ls' := [vR 137, vI a1, vI a2]) (st' := [vR 137]) (g' := g) k169_0 rfl rfl ?_
  refine q_s (pc' := 2) (ls' := [vR 137, vI a1, vI a2]) (st' := [vI a1, vR 137]) (g' := g) k169_1 rfl rfl ?_
  refine q_callI (ls0 := [vR 137, vI a1]) (rest := []) (pc' := 5) rfl k169_2 rfl (hy4 rfl rfl rfl rfl) rfl rfl hq_144 rfl (fun q1 => ?_)
  refine q_if (P := q1.1 = 0) (t := 12) (pc' := 8) k169_5 Iff.rfl rfl rfl (fun h2 => ?_) (fun h2 => ?_)
  · refine q_s (pc' := 13) (ls' := [vR 137, vI a1, vI a2]) (st' := [vR 137]) (g' := q1.2) k169_12 rfl rfl ?_
    refine q_callI (ls0 := [vR 137]) (rest := []) (pc' := 16) rfl k169_13 rfl (hy4 rfl rfl rfl rfl) rfl rfl hq_133 rfl (fun q3 => ?_)
    exact q_e k169_16 rfl rfl rfl
  · refine q_s (pc' := 9) (ls' := [vR 137, vI a1, vI a2]) (st' := [vI a2]) (g' := q1.2) k169_8 rfl rfl ?_
    refine q_if (P := 0 ≤ a2) (t := 17) (pc' := 12) k169_9 Iff.rfl rfl rfl (fun h4 => ?_) (fun h4 => ?_)
    · refine q_s (pc' := 18) (ls' := [vR 137, vI a1, vI a2]) (st' := [vI a2]) (g' := q1.2) k169_17 rfl rfl ?_
      refine q_s (pc' := 19) (ls' := [vR 137, vI a1, vI a2]) (st' := [vR 137, vI a2]) (g' := q1.2) k169_18 rfl rfl ?_
      refine q_s (pc' := 20) (ls' := [vR 137, vI a1, vI a2]) (st' := [vI a1, vR 137, vI a2]) (g' := q1.2) k169_19 rfl rfl ?_
      refine q_callI (ls0 := [vR 137, vI a1]) (rest := [vI a2]) (pc' := 23) rfl k169_20 rfl (hy4 rfl rfl rfl rfl) rfl rfl hq_146 rfl (fun q5 => ?_)
      refine q_ic (P := q5.1 ≤ a2) (t := 35) (pc' := 26) k169_23 Iff.rfl rfl rfl (fun h6 => ?_) (fun h6 => ?_)
      · refine q_s (pc' := 38) (ls' := [vR 137, vI a1, vI a2]) (st' := [vI (-201)]) (g' := q5.2) k169_35 rfl rfl ?_
        exact q_e k169_38 rfl rfl rfl
      · refine q_s (pc' := 27) (ls' := [vR 137, vI a1, vI a2]) (st' := [vR 137]) (g' := q5.2) k169_26 rfl rfl ?_
        refine q_s (pc' := 28) (ls' := [vR 137, vI a1, vI a2]) (st' := [vI a1, vR 137]) (g' := q5.2) k169_27 rfl rfl ?_
        refine q_s (pc' := 29) (ls' := [vR 137, vI a1, vI a2]) (st' := [vI a2, vI a1, vR 137]) (g' := q5.2) k169_28 rfl rfl ?_
        refine q_callI (ls0 := [vR 137, vI a1, vI a2]) (rest := []) (pc' := 32) rfl k169_29 rfl (hy4 rfl rfl rfl rfl) rfl rfl hq_147 rfl (fun q7 => ?_)
        refine q_s (pc' := 38) (ls' := [vR 137, vI a1, vI a2]) (st' := [vI q7.1]) (g' := q7.2) k169_32 rfl rfl ?_
        exact q_e k169_38 rfl rfl rfl
    · refine q_s (pc' := 13) (ls' := [vR 137, vI a1, vI a2]) (st' := [vR 137]) (g' := q1.2) k169_12 rfl rfl ?_
      refine q_callI (ls0 := [vR 137]) (rest := []) (pc' := 16) rfl k169_13 rfl (hy4 rfl rfl rfl rfl) rfl rfl hq_133 rfl (fun q8 => ?_)
      exact q_e k169_16 rfl rfl rfl
set_option maxHeartbeats 4000000 in
theorem jM_moveCost_eq (L : Nat) (a0 : Int) (a1 : Int) (g : AMem) : jM_moveCost L a0 a1 g = if a0 ≠ 3 then (if a0 ≠ 4 then (some (1, g)) else (some (iw ((iw (a1 + 1)).tdiv 2), g))) else (some (a1, g)) := by
  unfold jM_moveCost
  refine q_s (pc' := 1) (ls' := [vI a0, vI a1]) (st' := [vI a0]) (g' := g) k170_0 rfl rfl ?_
  refine q_s (pc' := 2) (ls' := [vI a0, vI a1]) (st' := [vI 3, vI a0]) (g' := g) k170_1 rfl rfl ?_
  refine q_ic (P := a0 ≠ 3) (t := 9) (pc' := 5) k170_2 Iff.rfl rfl rfl (fun h1 => ?_) (fun h1 => ?_)
  · refine q_s (pc' := 10) (ls' := [vI a0, vI a1]) (st' := [vI a0]) (g' := g) k170_9 rfl rfl ?_
    refine q_s (pc' := 11) (ls' := [vI a0, vI a1]) (st' := [vI 4, vI a0]) (g' := g) k170_10 rfl rfl ?_
    refine q_ic (P := a0 ≠ 4) (t := 22) (pc' := 14) k170_11 Iff.rfl rfl rfl (fun h2 => ?_) (fun h2 => ?_)
    · refine q_s (pc' := 23) (ls' := [vI a0, vI a1]) (st' := [vI 1]) (g' := g) k170_22 rfl rfl ?_
      exact q_e k170_23 rfl rfl rfl
    · refine q_s (pc' := 15) (ls' := [vI a0, vI a1]) (st' := [vI a1]) (g' := g) k170_14 rfl rfl ?_
      refine q_s (pc' := 16) (ls' := [vI a0, vI a1]) (st' := [vI 1, vI a1]) (g' := g) k170_15 rfl rfl ?_
      refine q_s (pc' := 17) (ls' := [vI a0, vI a1]) (st' := [vI (iw (a1 + 1))]) (g' := g) k170_16 rfl rfl ?_
      refine q_s (pc' := 18) (ls' := [vI a0, vI a1]) (st' := [vI 2, vI (iw (a1 + 1))]) (g' := g) k170_17 rfl rfl ?_
      refine q_s (pc' := 19) (ls' := [vI a0, vI a1]) (st' := [vI (iw ((iw (a1 + 1)).tdiv 2))]) (g' := g) k170_18 rfl rfl ?_
      refine q_s (pc' := 23) (ls' := [vI a0, vI a1]) (st' := [vI (iw ((iw (a1 + 1)).tdiv 2))]) (g' := g) k170_19 rfl rfl ?_
      exact q_e k170_23 rfl rfl rfl
  · refine q_s (pc' := 6) (ls' := [vI a0, vI a1]) (st' := [vI a1]) (g' := g) k170_5 rfl rfl ?_
    refine q_s (pc' := 23) (ls' := [vI a0, vI a1]) (st' := [vI a1]) (g' := g) k170_6 rfl rfl ?_
    exact q_e k170_23 rfl rfl rfl
set_option maxHeartbeats 4000000 in
theorem jM_changeCost_eq (L : Nat) (a0 : Int) (a1 : Int) (g : AMem) : jM_changeCost L a0 a1 g = if a0 ≠ 1 then (if a0 ≠ 2 then (if a0 ≠ 4 then (some (0, g)) else (some (iw ((iw ((iw (a1 + 1)).tdiv 2)) + 1), g))) else (some (3, g))) else (some (1, g)) := by
  unfold jM_changeCost
  refine q_s (pc' := 1) (ls' := [vI a0, vI a1]) (st' := [vI a0]) (g' := g) k171_0 rfl rfl ?_
  refine q_s (pc' := 2) (ls' := [vI a0, vI a1]) (st' := [vI 1, vI a0]) (g' := g) k171_1 rfl rfl ?_
  refine q_ic (P := a0 ≠ 1) (t := 9) (pc' := 5) k171_2 Iff.rfl rfl rfl (fun h1 => ?_) (fun h1 => ?_)
  · refine q_s (pc' := 10) (ls' := [vI a0, vI a1]) (st' := [vI a0]) (g' := g) k171_9 rfl rfl ?_
    refine q_s (pc' := 11) (ls' := [vI a0, vI a1]) (st' := [vI 2, vI a0]) (g' := g) k171_10 rfl rfl ?_
    refine q_ic (P := a0 ≠ 2) (t := 18) (pc' := 14) k171_11 Iff.rfl rfl rfl (fun h2 => ?_) (fun h2 => ?_)
    · refine q_s (pc' := 19) (ls' := [vI a0, vI a1]) (st' := [vI a0]) (g' := g) k171_18 rfl rfl ?_
      refine q_s (pc' := 20) (ls' := [vI a0, vI a1]) (st' := [vI 4, vI a0]) (g' := g) k171_19 rfl rfl ?_
      refine q_ic (P := a0 ≠ 4) (t := 33) (pc' := 23) k171_20 Iff.rfl rfl rfl (fun h3 => ?_) (fun h3 => ?_)
      · refine q_s (pc' := 34) (ls' := [vI a0, vI a1]) (st' := [vI 0]) (g' := g) k171_33 rfl rfl ?_
        exact q_e k171_34 rfl rfl rfl
      · refine q_s (pc' := 24) (ls' := [vI a0, vI a1]) (st' := [vI a1]) (g' := g) k171_23 rfl rfl ?_
        refine q_s (pc' := 25) (ls' := [vI a0, vI a1]) (st' := [vI 1, vI a1]) (g' := g) k171_24 rfl rfl ?_
        refine q_s (pc' := 26) (ls' := [vI a0, vI a1]) (st' := [vI (iw (a1 + 1))]) (g' := g) k171_25 rfl rfl ?_
        refine q_s (pc' := 27) (ls' := [vI a0, vI a1]) (st' := [vI 2, vI (iw (a1 + 1))]) (g' := g) k171_26 rfl rfl ?_
        refine q_s (pc' := 28) (ls' := [vI a0, vI a1]) (st' := [vI (iw ((iw (a1 + 1)).tdiv 2))]) (g' := g) k171_27 rfl rfl ?_
        refine q_s (pc' := 29) (ls' := [vI a0, vI a1]) (st' := [vI 1, vI (iw ((iw (a1 + 1)).tdiv 2))]) (g' := g) k171_28 rfl rfl ?_
        refine q_s (pc' := 30) (ls' := [vI a0, vI a1]) (st' := [vI (iw ((iw ((iw (a1 + 1)).tdiv 2)) + 1))]) (g' := g) k171_29 rfl rfl ?_
        refine q_s (pc' := 34) (ls' := [vI a0, vI a1]) (st' := [vI (iw ((iw ((iw (a1 + 1)).tdiv 2)) + 1))]) (g' := g) k171_30 rfl rfl ?_
        exact q_e k171_34 rfl rfl rfl
    · refine q_s (pc' := 15) (ls' := [vI a0, vI a1]) (st' := [vI 3]) (g' := g) k171_14 rfl rfl ?_
      refine q_s (pc' := 34) (ls' := [vI a0, vI a1]) (st' := [vI 3]) (g' := g) k171_15 rfl rfl ?_
      exact q_e k171_34 rfl rfl rfl
  · refine q_s (pc' := 6) (ls' := [vI a0, vI a1]) (st' := [vI 1]) (g' := g) k171_5 rfl rfl ?_
    refine q_s (pc' := 34) (ls' := [vI a0, vI a1]) (st' := [vI 1]) (g' := g) k171_6 rfl rfl ?_
    exact q_e k171_34 rfl rfl rfl
set_option maxHeartbeats 4000000 in
theorem jM_comes_eq (L : Nat) (a1 : Int) (a2 : Int) (a3 : Int) (g : AMem) : jM_comes L a1 a2 a3 g = if 0 ≤ g 137 10 ∧ g 137 10 < 24 then (if 0 ≤ (up g 145 (g 137 10) a1) 137 10 ∧ (up g 145 (g 137 10) a1) 137 10 < 24 then (if 0 ≤ (up (up g 145 (g 137 10) a1) 146 ((up g 145 (g 137 10) a1) 137 10) a2) 137 10 ∧ (up (up g 145 (g 137 10) a1) 146 ((up g 145 (g 137 10) a1) 137 10) a2) 137 10 < 24 then (some (up (up (up (up g 145 (g 137 10) a1) 146 ((up g 145 (g 137 10) a1) 137 10) a2) 147 ((up (up g 145 (g 137 10) a1) 146 ((up g 145 (g 137 10) a1) 137 10) a2) 137 10) a3) 137 10 (iw (((up (up (up g 145 (g 137 10) a1) 146 ((up g 145 (g 137 10) a1) 137 10) a2) 147 ((up (up g 145 (g 137 10) a1) 146 ((up g 145 (g 137 10) a1) 137 10) a2) 137 10) a3) 137 10) + 1)))) else none) else none) else none := by
  unfold jM_comes
  refine q_s (pc' := 1) (ls' := [vR 137, vI a1, vI a2, vI a3]) (st' := [vR 137]) (g' := g) k172_0 rfl rfl ?_
  refine q_getF (r := 145) (pc' := 4) k172_1 rfl rfl rfl rfl ?_
  refine q_s (pc' := 5) (ls' := [vR 137, vI a1, vI a2, vI a3]) (st' := [vR 137, vR 145]) (g' := g) k172_4 rfl rfl ?_
  refine q_getI (w := 10) (pc' := 8) k172_5 rfl rfl rfl rfl ?_
  refine q_s (pc' := 9) (ls' := [vR 137, vI a1, vI a2, vI a3]) (st' := [vI a1, vI (g 137 10), vR 145]) (g' := g) k172_8 rfl rfl ?_
  refine q_iast (n := 24) (pc' := 10) rfl k172_9 rfl (by decide) rfl (fun h1 => ?_)
  refine q_s (pc' := 11) (ls' := [vR 137, vI a1, vI a2, vI a3]) (st' := [vR 137]) (g' := up g 145 (g 137 10) a1) k172_10 rfl rfl ?_
  refine q_getF (r := 146) (pc' := 14) k172_11 rfl rfl rfl rfl ?_
  refine q_s (pc' := 15) (ls' := [vR 137, vI a1, vI a2, vI a3]) (st' := [vR 137, vR 146]) (g' := up g 145 (g 137 10) a1) k172_14 rfl rfl ?_
  refine q_getI (w := 10) (pc' := 18) k172_15 rfl rfl rfl rfl ?_
  refine q_s (pc' := 19) (ls' := [vR 137, vI a1, vI a2, vI a3]) (st' := [vI a2, vI ((up g 145 (g 137 10) a1) 137 10), vR 146]) (g' := up g 145 (g 137 10) a1) k172_18 rfl rfl ?_
  refine q_iast (n := 24) (pc' := 20) rfl k172_19 rfl (by decide) rfl (fun h2 => ?_)
  refine q_s (pc' := 21) (ls' := [vR 137, vI a1, vI a2, vI a3]) (st' := [vR 137]) (g' := up (up g 145 (g 137 10) a1) 146 ((up g 145 (g 137 10) a1) 137 10) a2) k172_20 rfl rfl ?_
  refine q_getF (r := 147) (pc' := 24) k172_21 rfl rfl rfl rfl ?_
  refine q_s (pc' := 25) (ls' := [vR 137, vI a1, vI a2, vI a3]) (st' := [vR 137, vR 147]) (g' := up (up g 145 (g 137 10) a1) 146 ((up g 145 (g 137 10) a1) 137 10) a2) k172_24 rfl rfl ?_
  refine q_getI (w := 10) (pc' := 28) k172_25 rfl rfl rfl rfl ?_
  refine q_s (pc' := 29) (ls' := [vR 137, vI a1, vI a2, vI a3]) (st' := [vI a3, vI ((up (up g 145 (g 137 10) a1) 146 ((up g 145 (g 137 10) a1) 137 10) a2) 137 10), vR 147]) (g' := up (up g 145 (g 137 10) a1) 146 ((up g 145 (g 137 10) a1) 137 10) a2) k172_28 rfl rfl ?_
  refine q_iast (n := 24) (pc' := 30) rfl k172_29 rfl (by decide) rfl (fun h3 => ?_)
  refine q_s (pc' := 31) (ls' := [vR 137, vI a1, vI a2, vI a3]) (st' := [vR 137]) (g' := up (up (up g 145 (g 137 10) a1) 146 ((up g 145 (g 137 10) a1) 137 10) a2) 147 ((up (up g 145 (g 137 10) a1) 146 ((up g 145 (g 137 10) a1) 137 10) a2) 137 10) a3) k172_30 rfl rfl ?_
  refine q_s (pc' := 32) (ls' := [vR 137, vI a1, vI a2, vI a3]) (st' := [vR 137, vR 137]) (g' := up (up (up g 145 (g 137 10) a1) 146 ((up g 145 (g 137 10) a1) 137 10) a2) 147 ((up (up g 145 (g 137 10) a1) 146 ((up g 145 (g 137 10) a1) 137 10) a2) 137 10) a3) k172_31 rfl rfl ?_
  refine q_getI (w := 10) (pc' := 35) k172_32 rfl rfl rfl rfl ?_
  refine q_s (pc' := 36) (ls' := [vR 137, vI a1, vI a2, vI a3]) (st' := [vI 1, vI ((up (up (up g 145 (g 137 10) a1) 146 ((up g 145 (g 137 10) a1) 137 10) a2) 147 ((up (up g 145 (g 137 10) a1) 146 ((up g 145 (g 137 10) a1) 137 10) a2) 137 10) a3) 137 10), vR 137]) (g' := up (up (up g 145 (g 137 10) a1) 146 ((up g 145 (g 137 10) a1) 137 10) a2) 147 ((up (up g 145 (g 137 10) a1) 146 ((up g 145 (g 137 10) a1) 137 10) a2) 137 10) a3) k172_35 rfl rfl ?_
  refine q_s (pc' := 37) (ls' := [vR 137, vI a1, vI a2, vI a3]) (st' := [vI (iw (((up (up (up g 145 (g 137 10) a1) 146 ((up g 145 (g 137 10) a1) 137 10) a2) 147 ((up (up g 145 (g 137 10) a1) 146 ((up g 145 (g 137 10) a1) 137 10) a2) 137 10) a3) 137 10) + 1)), vR 137]) (g' := up (up (up g 145 (g 137 10) a1) 146 ((up g 145 (g 137 10) a1) 137 10) a2) 147 ((up (up g 145 (g 137 10) a1) 146 ((up g 145 (g 137 10) a1) 137 10) a2) 137 10) a3) k172_36 rfl rfl ?_
  refine q_putI (w := 10) (pc' := 40) k172_37 rfl rfl rfl rfl ?_
  exact q_e k172_40 rfl rfl rfl
set_option maxHeartbeats 4000000 in
theorem jM_isWanted_eq (L : Nat) (a1 : Int) (a2 : Int) (g : AMem) : jM_isWanted L a1 a2 g = jM_isWanted_5 L a1 a2 0 0 g := by
  unfold jM_isWanted
  refine q_s (pc' := 1) (ls' := [vR 137, vI a1, vI a2, vU, vU]) (st' := [vI 0]) (g' := g) k173_0 rfl rfl ?_
  refine q_s (pc' := 2) (ls' := [vR 137, vI a1, vI a2, vI 0, vU]) (st' := []) (g' := g) k173_1 rfl rfl ?_
  refine q_s (pc' := 3) (ls' := [vR 137, vI a1, vI a2, vI 0, vU]) (st' := [vI 0]) (g' := g) k173_2 rfl rfl ?_
  refine q_s (pc' := 5) (ls' := [vR 137, vI a1, vI a2, vI 0, vI 0]) (st' := []) (g' := g) k173_3 rfl rfl ?_
  rfl
set_option maxHeartbeats 4000000 in
theorem jM_isWanted_5_eq (L : Nat) (l1 : Int) (l2 : Int) (l3 : Int) (l4 : Int) (g : AMem) : jM_isWanted_5 L l1 l2 l3 l4 g = if l2 ≤ l4 then (if l3 = 0 ∨ l3 = 1 then some (l3, g) else none) else (if l3 ≠ 0 then (jM_isWanted_5 L l1 l2 1 (iw (l4 + 1)) g) else (if 0 ≤ l4 ∧ l4 < 6 then (if g 148 l4 = 0 then (jM_isWanted_5 L l1 l2 0 (iw (l4 + 1)) g) else (if 0 ≤ l4 ∧ l4 < 6 then (if g 149 l4 ≠ l1 then (jM_isWanted_5 L l1 l2 0 (iw (l4 + 1)) g) else (jM_isWanted_5 L l1 l2 1 (iw (l4 + 1)) g)) else none)) else none)) := by
  unfold jM_isWanted_5
  refine q_s (pc' := 7) (ls' := [vR 137, vI l1, vI l2, vI l3, vI l4]) (st' := [vI l4]) (g' := g) k173_5 rfl rfl ?_
  refine q_s (pc' := 8) (ls' := [vR 137, vI l1, vI l2, vI l3, vI l4]) (st' := [vI l2, vI l4]) (g' := g) k173_7 rfl rfl ?_
  refine q_ic (P := l2 ≤ l4) (t := 48) (pc' := 11) k173_8 Iff.rfl rfl rfl (fun h1 => ?_) (fun h1 => ?_)
  · refine q_s (pc' := 49) (ls' := [vR 137, vI l1, vI l2, vI l3, vI l4]) (st' := [vI l3]) (g' := g) k173_48 rfl rfl ?_
    exact q_eb rfl k173_49 rfl rfl
  · refine q_s (pc' := 12) (ls' := [vR 137, vI l1, vI l2, vI l3, vI l4]) (st' := [vI l3]) (g' := g) k173_11 rfl rfl ?_
    refine q_if (P := l3 ≠ 0) (t := 36) (pc' := 15) k173_12 Iff.rfl rfl rfl (fun h2 => ?_) (fun h2 => ?_)
    · refine q_s (pc' := 37) (ls' := [vR 137, vI l1, vI l2, vI l3, vI l4]) (st' := [vI 1]) (g' := g) k173_36 rfl rfl ?_
      refine q_s (pc' := 41) (ls' := [vR 137, vI l1, vI l2, vI l3, vI l4]) (st' := [vI 1]) (g' := g) k173_37 rfl rfl ?_
      refine q_s (pc' := 42) (ls' := [vR 137, vI l1, vI l2, vI 1, vI l4]) (st' := []) (g' := g) k173_41 rfl rfl ?_
      refine q_s (pc' := 45) (ls' := [vR 137, vI l1, vI l2, vI 1, vI (iw (l4 + 1))]) (st' := []) (g' := g) k173_42 rfl rfl ?_
      refine q_s (pc' := 5) (ls' := [vR 137, vI l1, vI l2, vI 1, vI (iw (l4 + 1))]) (st' := []) (g' := g) k173_45 rfl rfl ?_
      rfl
    · refine q_s (pc' := 16) (ls' := [vR 137, vI l1, vI l2, vI l3, vI l4]) (st' := [vR 137]) (g' := g) k173_15 rfl rfl ?_
      refine q_getF (r := 148) (pc' := 19) k173_16 rfl rfl rfl rfl ?_
      refine q_s (pc' := 21) (ls' := [vR 137, vI l1, vI l2, vI l3, vI l4]) (st' := [vI l4, vR 148]) (g' := g) k173_19 rfl rfl ?_
      refine q_bald (n := 6) (pc' := 22) rfl k173_21 rfl rfl (fun h3 => ?_)
      refine q_if (P := g 148 l4 = 0) (t := 40) (pc' := 25) k173_22 Iff.rfl rfl rfl (fun h4 => ?_) (fun h4 => ?_)
      · refine q_s (pc' := 41) (ls' := [vR 137, vI l1, vI l2, vI l3, vI l4]) (st' := [vI 0]) (g' := g) k173_40 rfl rfl ?_
        refine q_s (pc' := 42) (ls' := [vR 137, vI l1, vI l2, vI 0, vI l4]) (st' := []) (g' := g) k173_41 rfl rfl ?_
        refine q_s (pc' := 45) (ls' := [vR 137, vI l1, vI l2, vI 0, vI (iw (l4 + 1))]) (st' := []) (g' := g) k173_42 rfl rfl ?_
        refine q_s (pc' := 5) (ls' := [vR 137, vI l1, vI l2, vI 0, vI (iw (l4 + 1))]) (st' := []) (g' := g) k173_45 rfl rfl ?_
        rfl
      · refine q_s (pc' := 26) (ls' := [vR 137, vI l1, vI l2, vI l3, vI l4]) (st' := [vR 137]) (g' := g) k173_25 rfl rfl ?_
        refine q_getF (r := 149) (pc' := 29) k173_26 rfl rfl rfl rfl ?_
        refine q_s (pc' := 31) (ls' := [vR 137, vI l1, vI l2, vI l3, vI l4]) (st' := [vI l4, vR 149]) (g' := g) k173_29 rfl rfl ?_
        refine q_iald (n := 6) (pc' := 32) rfl k173_31 rfl rfl (fun h5 => ?_)
        refine q_s (pc' := 33) (ls' := [vR 137, vI l1, vI l2, vI l3, vI l4]) (st' := [vI l1, vI (g 149 l4)]) (g' := g) k173_32 rfl rfl ?_
        refine q_ic (P := g 149 l4 ≠ l1) (t := 40) (pc' := 36) k173_33 Iff.rfl rfl rfl (fun h6 => ?_) (fun h6 => ?_)
        · refine q_s (pc' := 41) (ls' := [vR 137, vI l1, vI l2, vI l3, vI l4]) (st' := [vI 0]) (g' := g) k173_40 rfl rfl ?_
          refine q_s (pc' := 42) (ls' := [vR 137, vI l1, vI l2, vI 0, vI l4]) (st' := []) (g' := g) k173_41 rfl rfl ?_
          refine q_s (pc' := 45) (ls' := [vR 137, vI l1, vI l2, vI 0, vI (iw (l4 + 1))]) (st' := []) (g' := g) k173_42 rfl rfl ?_
          refine q_s (pc' := 5) (ls' := [vR 137, vI l1, vI l2, vI 0, vI (iw (l4 + 1))]) (st' := []) (g' := g) k173_45 rfl rfl ?_
          rfl
        · refine q_s (pc' := 37) (ls' := [vR 137, vI l1, vI l2, vI l3, vI l4]) (st' := [vI 1]) (g' := g) k173_36 rfl rfl ?_
          refine q_s (pc' := 41) (ls' := [vR 137, vI l1, vI l2, vI l3, vI l4]) (st' := [vI 1]) (g' := g) k173_37 rfl rfl ?_
          refine q_s (pc' := 42) (ls' := [vR 137, vI l1, vI l2, vI 1, vI l4]) (st' := []) (g' := g) k173_41 rfl rfl ?_
          refine q_s (pc' := 45) (ls' := [vR 137, vI l1, vI l2, vI 1, vI (iw (l4 + 1))]) (st' := []) (g' := g) k173_42 rfl rfl ?_
          refine q_s (pc' := 5) (ls' := [vR 137, vI l1, vI l2, vI 1, vI (iw (l4 + 1))]) (st' := []) (g' := g) k173_45 rfl rfl ?_
          rfl
set_option maxHeartbeats 4000000 in
theorem jM_openMany_eq (L : Nat) (a1 : Int) (g : AMem) : jM_openMany L a1 g = jM_openMany_4 L a1 0 0 g := by
  unfold jM_openMany
  refine q_s (pc' := 1) (ls' := [vR 137, vI a1, vU, vU]) (st' := [vI 0]) (g' := g) k174_0 rfl rfl ?_
  refine q_s (pc' := 2) (ls' := [vR 137, vI a1, vI 0, vU]) (st' := []) (g' := g) k174_1 rfl rfl ?_
  refine q_s (pc' := 3) (ls' := [vR 137, vI a1, vI 0, vU]) (st' := [vI 0]) (g' := g) k174_2 rfl rfl ?_
  refine q_s (pc' := 4) (ls' := [vR 137, vI a1, vI 0, vI 0]) (st' := []) (g' := g) k174_3 rfl rfl ?_
  rfl
set_option maxHeartbeats 4000000 in
theorem jM_openMany_4_eq (L : Nat) (l1 : Int) (l2 : Int) (l3 : Int) (g : AMem) : jM_openMany_4 L l1 l2 l3 g = if l1 ≤ l3 then (some (l2, g)) else (if 0 ≤ l3 ∧ l3 < 6 then (if g 148 l3 = 0 then (jM_openMany_4 L l1 (iw (l2 + 0)) (iw (l3 + 1)) g) else (jM_openMany_4 L l1 (iw (l2 + 1)) (iw (l3 + 1)) g)) else none) := by
  unfold jM_openMany_4
  refine q_s (pc' := 5) (ls' := [vR 137, vI l1, vI l2, vI l3]) (st' := [vI l3]) (g' := g) k174_4 rfl rfl ?_
  refine q_s (pc' := 6) (ls' := [vR 137, vI l1, vI l2, vI l3]) (st' := [vI l1, vI l3]) (g' := g) k174_5 rfl rfl ?_
  refine q_ic (P := l1 ≤ l3) (t := 32) (pc' := 9) k174_6 Iff.rfl rfl rfl (fun h1 => ?_) (fun h1 => ?_)
  · refine q_s (pc' := 33) (ls' := [vR 137, vI l1, vI l2, vI l3]) (st' := [vI l2]) (g' := g) k174_32 rfl rfl ?_
    exact q_e k174_33 rfl rfl rfl
  · refine q_s (pc' := 10) (ls' := [vR 137, vI l1, vI l2, vI l3]) (st' := [vI l2]) (g' := g) k174_9 rfl rfl ?_
    refine q_s (pc' := 11) (ls' := [vR 137, vI l1, vI l2, vI l3]) (st' := [vR 137, vI l2]) (g' := g) k174_10 rfl rfl ?_
    refine q_getF (r := 148) (pc' := 14) k174_11 rfl rfl rfl rfl ?_
    refine q_s (pc' := 15) (ls' := [vR 137, vI l1, vI l2, vI l3]) (st' := [vI l3, vR 148, vI l2]) (g' := g) k174_14 rfl rfl ?_
    refine q_bald (n := 6) (pc' := 16) rfl k174_15 rfl rfl (fun h2 => ?_)
    refine q_if (P := g 148 l3 = 0) (t := 23) (pc' := 19) k174_16 Iff.rfl rfl rfl (fun h3 => ?_) (fun h3 => ?_)
    · refine q_s (pc' := 24) (ls' := [vR 137, vI l1, vI l2, vI l3]) (st' := [vI 0, vI l2]) (g' := g) k174_23 rfl rfl ?_
      refine q_s (pc' := 25) (ls' := [vR 137, vI l1, vI l2, vI l3]) (st' := [vI (iw (l2 + 0))]) (g' := g) k174_24 rfl rfl ?_
      refine q_s (pc' := 26) (ls' := [vR 137, vI l1, vI (iw (l2 + 0)), vI l3]) (st' := []) (g' := g) k174_25 rfl rfl ?_
      refine q_s (pc' := 29) (ls' := [vR 137, vI l1, vI (iw (l2 + 0)), vI (iw (l3 + 1))]) (st' := []) (g' := g) k174_26 rfl rfl ?_
      refine q_s (pc' := 4) (ls' := [vR 137, vI l1, vI (iw (l2 + 0)), vI (iw (l3 + 1))]) (st' := []) (g' := g) k174_29 rfl rfl ?_
      rfl
    · refine q_s (pc' := 20) (ls' := [vR 137, vI l1, vI l2, vI l3]) (st' := [vI 1, vI l2]) (g' := g) k174_19 rfl rfl ?_
      refine q_s (pc' := 24) (ls' := [vR 137, vI l1, vI l2, vI l3]) (st' := [vI 1, vI l2]) (g' := g) k174_20 rfl rfl ?_
      refine q_s (pc' := 25) (ls' := [vR 137, vI l1, vI l2, vI l3]) (st' := [vI (iw (l2 + 1))]) (g' := g) k174_24 rfl rfl ?_
      refine q_s (pc' := 26) (ls' := [vR 137, vI l1, vI (iw (l2 + 1)), vI l3]) (st' := []) (g' := g) k174_25 rfl rfl ?_
      refine q_s (pc' := 29) (ls' := [vR 137, vI l1, vI (iw (l2 + 1)), vI (iw (l3 + 1))]) (st' := []) (g' := g) k174_26 rfl rfl ?_
      refine q_s (pc' := 4) (ls' := [vR 137, vI l1, vI (iw (l2 + 1)), vI (iw (l3 + 1))]) (st' := []) (g' := g) k174_29 rfl rfl ?_
      rfl
set_option maxHeartbeats 4000000 in
theorem jM_leastOpen_eq (L : Nat) (a1 : Int) (a2 : Int) (g : AMem) : jM_leastOpen L a1 a2 g = (jM_manyOf L a1 g).bind (fun q1 => jM_leastOpen_14 L a1 a2 q1.1 (-201) 0 vU q1.2) := by
  unfold jM_leastOpen
  refine q_s (pc' := 1) (ls' := [vR 137, vI a1, vI a2, vU, vU, vU, vU]) (st' := [vR 137]) (g' := g) k175_0 rfl rfl ?_
  refine q_s (pc' := 2) (ls' := [vR 137, vI a1, vI a2, vU, vU, vU, vU]) (st' := [vI a1, vR 137]) (g' := g) k175_1 rfl rfl ?_
  refine q_callI (ls0 := [vR 137, vI a1]) (rest := []) (pc' := 5) rfl k175_2 rfl (hy4 rfl rfl rfl rfl) rfl rfl hq_146 rfl (fun q1 => ?_)
  refine q_s (pc' := 6) (ls' := [vR 137, vI a1, vI a2, vI q1.1, vU, vU, vU]) (st' := []) (g' := q1.2) k175_5 rfl rfl ?_
  refine q_s (pc' := 9) (ls' := [vR 137, vI a1, vI a2, vI q1.1, vU, vU, vU]) (st' := [vI (-201)]) (g' := q1.2) k175_6 rfl rfl ?_
  refine q_s (pc' := 11) (ls' := [vR 137, vI a1, vI a2, vI q1.1, vI (-201), vU, vU]) (st' := []) (g' := q1.2) k175_9 rfl rfl ?_
  refine q_s (pc' := 12) (ls' := [vR 137, vI a1, vI a2, vI q1.1, vI (-201), vU, vU]) (st' := [vI 0]) (g' := q1.2) k175_11 rfl rfl ?_
  refine q_s (pc' := 14) (ls' := [vR 137, vI a1, vI a2, vI q1.1, vI (-201), vI 0, vU]) (st' := []) (g' := q1.2) k175_12 rfl rfl ?_
  rfl
set_option maxHeartbeats 4000000 in
theorem jM_leastOpen_14_eq (L : Nat) (l1 : Int) (l2 : Int) (l3 : Int) (l4 : Int) (l5 : Int) (w6 : AVal) (g : AMem) : jM_leastOpen_14 L l1 l2 l3 l4 l5 w6 g = if l3 ≤ l5 then (some (l4, g)) else (if 0 ≤ l5 ∧ l5 < 6 then (if g 148 l5 = 0 then (jM_leastOpen_14 L l1 l2 l3 l4 (iw (l5 + 1)) (vI 0) g) else (if l2 = 0 then (if l4 = (-201) then (jM_leastOpen_14 L l1 l2 l3 l5 (iw (l5 + 1)) (vI 1) g) else ((jM_parameterOf L l1 l5 g).bind (fun q7 => (jM_byteOf L q7.1 q7.2).bind (fun q8 => (jM_parameterOf L l1 l4 q8.2).bind (fun q9 => (jM_byteOf L q9.1 q9.2).bind (fun q10 => if q10.1 ≤ q8.1 then (jM_leastOpen_14 L l1 l2 l3 l4 (iw (l5 + 1)) (vI 1) q10.2) else (jM_leastOpen_14 L l1 l2 l3 l5 (iw (l5 + 1)) (vI 1) q10.2))))))) else ((jM_parameterOf L l1 l5 g).bind (fun q12 => (jM_isWanted L q12.1 l3 q12.2).bind (fun q13 => if q13.1 ≠ 0 then (jM_leastOpen_14 L l1 l2 l3 l4 (iw (l5 + 1)) (vI 0) q13.2) else (if l4 = (-201) then (jM_leastOpen_14 L l1 l2 l3 l5 (iw (l5 + 1)) (vI 1) q13.2) else ((jM_parameterOf L l1 l5 q13.2).bind (fun q16 => (jM_byteOf L q16.1 q16.2).bind (fun q17 => (jM_parameterOf L l1 l4 q17.2).bind (fun q18 => (jM_byteOf L q18.1 q18.2).bind (fun q19 => if q19.1 ≤ q17.1 then (jM_leastOpen_14 L l1 l2 l3 l4 (iw (l5 + 1)) (vI 1) q19.2) else (jM_leastOpen_14 L l1 l2 l3 l5 (iw (l5 + 1)) (vI 1) q19.2)))))))))))) else none) := by
  unfold jM_leastOpen_14
  refine q_s (pc' := 16) (ls' := [vR 137, vI l1, vI l2, vI l3, vI l4, vI l5, w6]) (st' := [vI l5]) (g' := g) k175_14 rfl rfl ?_
  refine q_s (pc' := 17) (ls' := [vR 137, vI l1, vI l2, vI l3, vI l4, vI l5, w6]) (st' := [vI l3, vI l5]) (g' := g) k175_16 rfl rfl ?_
  refine q_ic (P := l3 ≤ l5) (t := 107) (pc' := 20) k175_17 Iff.rfl rfl rfl (fun h2 => ?_) (fun h2 => ?_)
  · refine q_s (pc' := 109) (ls' := [vR 137, vI l1, vI l2, vI l3, vI l4, vI l5, w6]) (st' := [vI l4]) (g' := g) k175_107 rfl rfl ?_
    exact q_e k175_109 rfl rfl rfl
  · refine q_s (pc' := 21) (ls' := [vR 137, vI l1, vI l2, vI l3, vI l4, vI l5, w6]) (st' := [vR 137]) (g' := g) k175_20 rfl rfl ?_
    refine q_getF (r := 148) (pc' := 24) k175_21 rfl rfl rfl rfl ?_
    refine q_s (pc' := 26) (ls' := [vR 137, vI l1, vI l2, vI l3, vI l4, vI l5, w6]) (st' := [vI l5, vR 148]) (g' := g) k175_24 rfl rfl ?_
    refine q_bald (n := 6) (pc' := 27) rfl k175_26 rfl rfl (fun h3 => ?_)
    refine q_if (P := g 148 l5 = 0) (t := 53) (pc' := 30) k175_27 Iff.rfl rfl rfl (fun h4 => ?_) (fun h4 => ?_)
    · refine q_s (pc' := 54) (ls' := [vR 137, vI l1, vI l2, vI l3, vI l4, vI l5, w6]) (st' := [vI 0]) (g' := g) k175_53 rfl rfl ?_
      refine q_s (pc' := 56) (ls' := [vR 137, vI l1, vI l2, vI l3, vI l4, vI l5, vI 0]) (st' := []) (g' := g) k175_54 rfl rfl ?_
      refine q_s (pc' := 58) (ls' := [vR 137, vI l1, vI l2, vI l3, vI l4, vI l5, vI 0]) (st' := [vI 0]) (g' := g) k175_56 rfl rfl ?_
      refine q_s (pc' := 97) (ls' := [vR 137, vI l1, vI l2, vI l3, vI l4, vI l5, vI 0]) (st' := []) (g' := g) k175_58 rfl rfl ?_
      refine q_s (pc' := 99) (ls' := [vR 137, vI l1, vI l2, vI l3, vI l4, vI l5, vI 0]) (st' := [vI l4]) (g' := g) k175_97 rfl rfl ?_
      refine q_s (pc' := 101) (ls' := [vR 137, vI l1, vI l2, vI l3, vI l4, vI l5, vI 0]) (st' := []) (g' := g) k175_99 rfl rfl ?_
      refine q_s (pc' := 104) (ls' := [vR 137, vI l1, vI l2, vI l3, vI l4, vI (iw (l5 + 1)), vI 0]) (st' := []) (g' := g) k175_101 rfl rfl ?_
      refine q_s (pc' := 14) (ls' := [vR 137, vI l1, vI l2, vI l3, vI l4, vI (iw (l5 + 1)), vI 0]) (st' := []) (g' := g) k175_104 rfl rfl ?_
      rfl
    · refine q_s (pc' := 31) (ls' := [vR 137, vI l1, vI l2, vI l3, vI l4, vI l5, w6]) (st' := [vI l2]) (g' := g) k175_30 rfl rfl ?_
      refine q_if (P := l2 = 0) (t := 49) (pc' := 34) k175_31 Iff.rfl rfl rfl (fun h5 => ?_) (fun h5 => ?_)
      · refine q_s (pc' := 50) (ls' := [vR 137, vI l1, vI l2, vI l3, vI l4, vI l5, w6]) (st' := [vI 1]) (g' := g) k175_49 rfl rfl ?_
        refine q_s (pc' := 54) (ls' := [vR 137, vI l1, vI l2, vI l3, vI l4, vI l5, w6]) (st' := [vI 1]) (g' := g) k175_50 rfl rfl ?_
        refine q_s (pc' := 56) (ls' := [vR 137, vI l1, vI l2, vI l3, vI l4, vI l5, vI 1]) (st' := []) (g' := g) k175_54 rfl rfl ?_
        refine q_s (pc' := 58) (ls' := [vR 137, vI l1, vI l2, vI l3, vI l4, vI l5, vI 1]) (st' := [vI 1]) (g' := g) k175_56 rfl rfl ?_
        refine q_s (pc' := 61) (ls' := [vR 137, vI l1, vI l2, vI l3, vI l4, vI l5, vI 1]) (st' := []) (g' := g) k175_58 rfl rfl ?_
        refine q_s (pc' := 63) (ls' := [vR 137, vI l1, vI l2, vI l3, vI l4, vI l5, vI 1]) (st' := [vI l4]) (g' := g) k175_61 rfl rfl ?_
        refine q_s (pc' := 66) (ls' := [vR 137, vI l1, vI l2, vI l3, vI l4, vI l5, vI 1]) (st' := [vI (-201), vI l4]) (g' := g) k175_63 rfl rfl ?_
        refine q_ic (P := l4 = (-201)) (t := 92) (pc' := 69) k175_66 Iff.rfl rfl rfl (fun h6 => ?_) (fun h6 => ?_)
        · refine q_s (pc' := 94) (ls' := [vR 137, vI l1, vI l2, vI l3, vI l4, vI l5, vI 1]) (st' := [vI l5]) (g' := g) k175_92 rfl rfl ?_
          refine q_s (pc' := 99) (ls' := [vR 137, vI l1, vI l2, vI l3, vI l4, vI l5, vI 1]) (st' := [vI l5]) (g' := g) k175_94 rfl rfl ?_
          refine q_s (pc' := 101) (ls' := [vR 137, vI l1, vI l2, vI l3, vI l5, vI l5, vI 1]) (st' := []) (g' := g) k175_99 rfl rfl ?_
          refine q_s (pc' := 104) (ls' := [vR 137, vI l1, vI l2, vI l3, vI l5, vI (iw (l5 + 1)), vI 1]) (st' := []) (g' := g) k175_101 rfl rfl ?_
          refine q_s (pc' := 14) (ls' := [vR 137, vI l1, vI l2, vI l3, vI l5, vI (iw (l5 + 1)), vI 1]) (st' := []) (g' := g) k175_104 rfl rfl ?_
          rfl
        · refine q_s (pc' := 70) (ls' := [vR 137, vI l1, vI l2, vI l3, vI l4, vI l5, vI 1]) (st' := [vR 137]) (g' := g) k175_69 rfl rfl ?_
          refine q_s (pc' := 71) (ls' := [vR 137, vI l1, vI l2, vI l3, vI l4, vI l5, vI 1]) (st' := [vI l1, vR 137]) (g' := g) k175_70 rfl rfl ?_
          refine q_s (pc' := 73) (ls' := [vR 137, vI l1, vI l2, vI l3, vI l4, vI l5, vI 1]) (st' := [vI l5, vI l1, vR 137]) (g' := g) k175_71 rfl rfl ?_
          refine q_callI (ls0 := [vR 137, vI l1, vI l5]) (rest := []) (pc' := 76) rfl k175_73 rfl (hy4 rfl rfl rfl rfl) rfl rfl hq_145 rfl (fun q7 => ?_)
          refine q_callI (ls0 := [vI q7.1]) (rest := []) (pc' := 79) rfl k175_76 rfl (hy4 rfl rfl rfl rfl) rfl rfl hq_138 rfl (fun q8 => ?_)
          refine q_s (pc' := 80) (ls' := [vR 137, vI l1, vI l2, vI l3, vI l4, vI l5, vI 1]) (st' := [vR 137, vI q8.1]) (g' := q8.2) k175_79 rfl rfl ?_
          refine q_s (pc' := 81) (ls' := [vR 137, vI l1, vI l2, vI l3, vI l4, vI l5, vI 1]) (st' := [vI l1, vR 137, vI q8.1]) (g' := q8.2) k175_80 rfl rfl ?_
          refine q_s (pc' := 83) (ls' := [vR 137, vI l1, vI l2, vI l3, vI l4, vI l5, vI 1]) (st' := [vI l4, vI l1, vR 137, vI q8.1]) (g' := q8.2) k175_81 rfl rfl ?_
          refine q_callI (ls0 := [vR 137, vI l1, vI l4]) (rest := [vI q8.1]) (pc' := 86) rfl k175_83 rfl (hy4 rfl rfl rfl rfl) rfl rfl hq_145 rfl (fun q9 => ?_)
          refine q_callI (ls0 := [vI q9.1]) (rest := [vI q8.1]) (pc' := 89) rfl k175_86 rfl (hy4 rfl rfl rfl rfl) rfl rfl hq_138 rfl (fun q10 => ?_)
          refine q_ic (P := q10.1 ≤ q8.1) (t := 97) (pc' := 92) k175_89 Iff.rfl rfl rfl (fun h11 => ?_) (fun h11 => ?_)
          · refine q_s (pc' := 99) (ls' := [vR 137, vI l1, vI l2, vI l3, vI l4, vI l5, vI 1]) (st' := [vI l4]) (g' := q10.2) k175_97 rfl rfl ?_
            refine q_s (pc' := 101) (ls' := [vR 137, vI l1, vI l2, vI l3, vI l4, vI l5, vI 1]) (st' := []) (g' := q10.2) k175_99 rfl rfl ?_
            refine q_s (pc' := 104) (ls' := [vR 137, vI l1, vI l2, vI l3, vI l4, vI (iw (l5 + 1)), vI 1]) (st' := []) (g' := q10.2) k175_101 rfl rfl ?_
            refine q_s (pc' := 14) (ls' := [vR 137, vI l1, vI l2, vI l3, vI l4, vI (iw (l5 + 1)), vI 1]) (st' := []) (g' := q10.2) k175_104 rfl rfl ?_
            rfl
          · refine q_s (pc' := 94) (ls' := [vR 137, vI l1, vI l2, vI l3, vI l4, vI l5, vI 1]) (st' := [vI l5]) (g' := q10.2) k175_92 rfl rfl ?_
            refine q_s (pc' := 99) (ls' := [vR 137, vI l1, vI l2, vI l3, vI l4, vI l5, vI 1]) (st' := [vI l5]) (g' := q10.2) k175_94 rfl rfl ?_
            refine q_s (pc' := 101) (ls' := [vR 137, vI l1, vI l2, vI l3, vI l5, vI l5, vI 1]) (st' := []) (g' := q10.2) k175_99 rfl rfl ?_
            refine q_s (pc' := 104) (ls' := [vR 137, vI l1, vI l2, vI l3, vI l5, vI (iw (l5 + 1)), vI 1]) (st' := []) (g' := q10.2) k175_101 rfl rfl ?_
            refine q_s (pc' := 14) (ls' := [vR 137, vI l1, vI l2, vI l3, vI l5, vI (iw (l5 + 1)), vI 1]) (st' := []) (g' := q10.2) k175_104 rfl rfl ?_
            rfl
      · refine q_s (pc' := 35) (ls' := [vR 137, vI l1, vI l2, vI l3, vI l4, vI l5, w6]) (st' := [vR 137]) (g' := g) k175_34 rfl rfl ?_
        refine q_s (pc' := 36) (ls' := [vR 137, vI l1, vI l2, vI l3, vI l4, vI l5, w6]) (st' := [vR 137, vR 137]) (g' := g) k175_35 rfl rfl ?_
        refine q_s (pc' := 37) (ls' := [vR 137, vI l1, vI l2, vI l3, vI l4, vI l5, w6]) (st' := [vI l1, vR 137, vR 137]) (g' := g) k175_36 rfl rfl ?_
        refine q_s (pc' := 39) (ls' := [vR 137, vI l1, vI l2, vI l3, vI l4, vI l5, w6]) (st' := [vI l5, vI l1, vR 137, vR 137]) (g' := g) k175_37 rfl rfl ?_
        refine q_callI (ls0 := [vR 137, vI l1, vI l5]) (rest := [vR 137]) (pc' := 42) rfl k175_39 rfl (hy4 rfl rfl rfl rfl) rfl rfl hq_145 rfl (fun q12 => ?_)
        refine q_s (pc' := 43) (ls' := [vR 137, vI l1, vI l2, vI l3, vI l4, vI l5, w6]) (st' := [vI l3, vI q12.1, vR 137]) (g' := q12.2) k175_42 rfl rfl ?_
        refine q_callI (ls0 := [vR 137, vI q12.1, vI l3, vU, vU]) (rest := []) (pc' := 46) rfl k175_43 rfl (hy4 rfl rfl rfl rfl) rfl rfl hq_173 rfl (fun q13 => ?_)
        refine q_if (P := q13.1 ≠ 0) (t := 53) (pc' := 49) k175_46 Iff.rfl rfl rfl (fun h14 => ?_) (fun h14 => ?_)
        · refine q_s (pc' := 54) (ls' := [vR 137, vI l1, vI l2, vI l3, vI l4, vI l5, w6]) (st' := [vI 0]) (g' := q13.2) k175_53 rfl rfl ?_
          refine q_s (pc' := 56) (ls' := [vR 137, vI l1, vI l2, vI l3, vI l4, vI l5, vI 0]) (st' := []) (g' := q13.2) k175_54 rfl rfl ?_
          refine q_s (pc' := 58) (ls' := [vR 137, vI l1, vI l2, vI l3, vI l4, vI l5, vI 0]) (st' := [vI 0]) (g' := q13.2) k175_56 rfl rfl ?_
          refine q_s (pc' := 97) (ls' := [vR 137, vI l1, vI l2, vI l3, vI l4, vI l5, vI 0]) (st' := []) (g' := q13.2) k175_58 rfl rfl ?_
          refine q_s (pc' := 99) (ls' := [vR 137, vI l1, vI l2, vI l3, vI l4, vI l5, vI 0]) (st' := [vI l4]) (g' := q13.2) k175_97 rfl rfl ?_
          refine q_s (pc' := 101) (ls' := [vR 137, vI l1, vI l2, vI l3, vI l4, vI l5, vI 0]) (st' := []) (g' := q13.2) k175_99 rfl rfl ?_
          refine q_s (pc' := 104) (ls' := [vR 137, vI l1, vI l2, vI l3, vI l4, vI (iw (l5 + 1)), vI 0]) (st' := []) (g' := q13.2) k175_101 rfl rfl ?_
          refine q_s (pc' := 14) (ls' := [vR 137, vI l1, vI l2, vI l3, vI l4, vI (iw (l5 + 1)), vI 0]) (st' := []) (g' := q13.2) k175_104 rfl rfl ?_
          rfl
        · refine q_s (pc' := 50) (ls' := [vR 137, vI l1, vI l2, vI l3, vI l4, vI l5, w6]) (st' := [vI 1]) (g' := q13.2) k175_49 rfl rfl ?_
          refine q_s (pc' := 54) (ls' := [vR 137, vI l1, vI l2, vI l3, vI l4, vI l5, w6]) (st' := [vI 1]) (g' := q13.2) k175_50 rfl rfl ?_
          refine q_s (pc' := 56) (ls' := [vR 137, vI l1, vI l2, vI l3, vI l4, vI l5, vI 1]) (st' := []) (g' := q13.2) k175_54 rfl rfl ?_
          refine q_s (pc' := 58) (ls' := [vR 137, vI l1, vI l2, vI l3, vI l4, vI l5, vI 1]) (st' := [vI 1]) (g' := q13.2) k175_56 rfl rfl ?_
          refine q_s (pc' := 61) (ls' := [vR 137, vI l1, vI l2, vI l3, vI l4, vI l5, vI 1]) (st' := []) (g' := q13.2) k175_58 rfl rfl ?_
          refine q_s (pc' := 63) (ls' := [vR 137, vI l1, vI l2, vI l3, vI l4, vI l5, vI 1]) (st' := [vI l4]) (g' := q13.2) k175_61 rfl rfl ?_
          refine q_s (pc' := 66) (ls' := [vR 137, vI l1, vI l2, vI l3, vI l4, vI l5, vI 1]) (st' := [vI (-201), vI l4]) (g' := q13.2) k175_63 rfl rfl ?_
          refine q_ic (P := l4 = (-201)) (t := 92) (pc' := 69) k175_66 Iff.rfl rfl rfl (fun h15 => ?_) (fun h15 => ?_)
          · refine q_s (pc' := 94) (ls' := [vR 137, vI l1, vI l2, vI l3, vI l4, vI l5, vI 1]) (st' := [vI l5]) (g' := q13.2) k175_92 rfl rfl ?_
            refine q_s (pc' := 99) (ls' := [vR 137, vI l1, vI l2, vI l3, vI l4, vI l5, vI 1]) (st' := [vI l5]) (g' := q13.2) k175_94 rfl rfl ?_
            refine q_s (pc' := 101) (ls' := [vR 137, vI l1, vI l2, vI l3, vI l5, vI l5, vI 1]) (st' := []) (g' := q13.2) k175_99 rfl rfl ?_
            refine q_s (pc' := 104) (ls' := [vR 137, vI l1, vI l2, vI l3, vI l5, vI (iw (l5 + 1)), vI 1]) (st' := []) (g' := q13.2) k175_101 rfl rfl ?_
            refine q_s (pc' := 14) (ls' := [vR 137, vI l1, vI l2, vI l3, vI l5, vI (iw (l5 + 1)), vI 1]) (st' := []) (g' := q13.2) k175_104 rfl rfl ?_
            rfl
          · refine q_s (pc' := 70) (ls' := [vR 137, vI l1, vI l2, vI l3, vI l4, vI l5, vI 1]) (st' := [vR 137]) (g' := q13.2) k175_69 rfl rfl ?_
            refine q_s (pc' := 71) (ls' := [vR 137, vI l1, vI l2, vI l3, vI l4, vI l5, vI 1]) (st' := [vI l1, vR 137]) (g' := q13.2) k175_70 rfl rfl ?_
            refine q_s (pc' := 73) (ls' := [vR 137, vI l1, vI l2, vI l3, vI l4, vI l5, vI 1]) (st' := [vI l5, vI l1, vR 137]) (g' := q13.2) k175_71 rfl rfl ?_
            refine q_callI (ls0 := [vR 137, vI l1, vI l5]) (rest := []) (pc' := 76) rfl k175_73 rfl (hy4 rfl rfl rfl rfl) rfl rfl hq_145 rfl (fun q16 => ?_)
            refine q_callI (ls0 := [vI q16.1]) (rest := []) (pc' := 79) rfl k175_76 rfl (hy4 rfl rfl rfl rfl) rfl rfl hq_138 rfl (fun q17 => ?_)
            refine q_s (pc' := 80) (ls' := [vR 137, vI l1, vI l2, vI l3, vI l4, vI l5, vI 1]) (st' := [vR 137, vI q17.1]) (g' := q17.2) k175_79 rfl rfl ?_
            refine q_s (pc' := 81) (ls' := [vR 137, vI l1, vI l2, vI l3, vI l4, vI l5, vI 1]) (st' := [vI l1, vR 137, vI q17.1]) (g' := q17.2) k175_80 rfl rfl ?_
            refine q_s (pc' := 83) (ls' := [vR 137, vI l1, vI l2, vI l3, vI l4, vI l5, vI 1]) (st' := [vI l4, vI l1, vR 137, vI q17.1]) (g' := q17.2) k175_81 rfl rfl ?_
            refine q_callI (ls0 := [vR 137, vI l1, vI l4]) (rest := [vI q17.1]) (pc' := 86) rfl k175_83 rfl (hy4 rfl rfl rfl rfl) rfl rfl hq_145 rfl (fun q18 => ?_)
            refine q_callI (ls0 := [vI q18.1]) (rest := [vI q17.1]) (pc' := 89) rfl k175_86 rfl (hy4 rfl rfl rfl rfl) rfl rfl hq_138 rfl (fun q19 => ?_)
            refine q_ic (P := q19.1 ≤ q17.1) (t := 97) (pc' := 92) k175_89 Iff.rfl rfl rfl (fun h20 => ?_) (fun h20 => ?_)
            · refine q_s (pc' := 99) (ls' := [vR 137, vI l1, vI l2, vI l3, vI l4, vI l5, vI 1]) (st' := [vI l4]) (g' := q19.2) k175_97 rfl rfl ?_
              refine q_s (pc' := 101) (ls' := [vR 137, vI l1, vI l2, vI l3, vI l4, vI l5, vI 1]) (st' := []) (g' := q19.2) k175_99 rfl rfl ?_
              refine q_s (pc' := 104) (ls' := [vR 137, vI l1, vI l2, vI l3, vI l4, vI (iw (l5 + 1)), vI 1]) (st' := []) (g' := q19.2) k175_101 rfl rfl ?_
              refine q_s (pc' := 14) (ls' := [vR 137, vI l1, vI l2, vI l3, vI l4, vI (iw (l5 + 1)), vI 1]) (st' := []) (g' := q19.2) k175_104 rfl rfl ?_
              rfl
            · refine q_s (pc' := 94) (ls' := [vR 137, vI l1, vI l2, vI l3, vI l4, vI l5, vI 1]) (st' := [vI l5]) (g' := q19.2) k175_92 rfl rfl ?_
              refine q_s (pc' := 99) (ls' := [vR 137, vI l1, vI l2, vI l3, vI l4, vI l5, vI 1]) (st' := [vI l5]) (g' := q19.2) k175_94 rfl rfl ?_
              refine q_s (pc' := 101) (ls' := [vR 137, vI l1, vI l2, vI l3, vI l5, vI l5, vI 1]) (st' := []) (g' := q19.2) k175_99 rfl rfl ?_
              refine q_s (pc' := 104) (ls' := [vR 137, vI l1, vI l2, vI l3, vI l5, vI (iw (l5 + 1)), vI 1]) (st' := []) (g' := q19.2) k175_101 rfl rfl ?_
              refine q_s (pc' := 14) (ls' := [vR 137, vI l1, vI l2, vI l3, vI l5, vI (iw (l5 + 1)), vI 1]) (st' := []) (g' := q19.2) k175_104 rfl rfl ?_
              rfl
set_option maxHeartbeats 4000000 in
theorem jM_whoHas_eq (L : Nat) (a1 : Int) (a2 : Int) (g : AMem) : jM_whoHas L a1 a2 g = jM_whoHas_7 L a1 a2 (-201) 0 g := by
  unfold jM_whoHas
  refine q_s (pc' := 3) (ls' := [vR 137, vI a1, vI a2, vU, vU]) (st' := [vI (-201)]) (g' := g) k176_0 rfl rfl ?_
  refine q_s (pc' := 4) (ls' := [vR 137, vI a1, vI a2, vI (-201), vU]) (st' := []) (g' := g) k176_3 rfl rfl ?_
  refine q_s (pc' := 5) (ls' := [vR 137, vI a1, vI a2, vI (-201), vU]) (st' := [vI 0]) (g' := g) k176_4 rfl rfl ?_
  refine q_s (pc' := 7) (ls' := [vR 137, vI a1, vI a2, vI (-201), vI 0]) (st' := []) (g' := g) k176_5 rfl rfl ?_
  rfl
set_option maxHeartbeats 4000000 in
theorem jM_whoHas_7_eq (L : Nat) (l1 : Int) (l2 : Int) (l3 : Int) (l4 : Int) (g : AMem) : jM_whoHas_7 L l1 l2 l3 l4 g = (jM_manyOf L l1 g).bind (fun q1 => if q1.1 ≤ l4 then (some (l3, q1.2)) else ((jM_parameterOf L l1 l4 q1.2).bind (fun q3 => if q3.1 ≠ l2 then (jM_whoHas_7 L l1 l2 l3 (iw (l4 + 1)) q3.2) else (jM_whoHas_7 L l1 l2 l4 (iw (l4 + 1)) q3.2)))) := by
  unfold jM_whoHas_7
  refine q_s (pc' := 9) (ls' := [vR 137, vI l1, vI l2, vI l3, vI l4]) (st' := [vI l4]) (g' := g) k176_7 rfl rfl ?_
  refine q_s (pc' := 10) (ls' := [vR 137, vI l1, vI l2, vI l3, vI l4]) (st' := [vR 137, vI l4]) (g' := g) k176_9 rfl rfl ?_
  refine q_s (pc' := 11) (ls' := [vR 137, vI l1, vI l2, vI l3, vI l4]) (st' := [vI l1, vR 137, vI l4]) (g' := g) k176_10 rfl rfl ?_
  refine q_callI (ls0 := [vR 137, vI l1]) (rest := [vI l4]) (pc' := 14) rfl k176_11 rfl (hy4 rfl rfl rfl rfl) rfl rfl hq_146 rfl (fun q1 => ?_)
  refine q_ic (P := q1.1 ≤ l4) (t := 41) (pc' := 17) k176_14 Iff.rfl rfl rfl (fun h2 => ?_) (fun h2 => ?_)
  · refine q_s (pc' := 42) (ls' := [vR 137, vI l1, vI l2, vI l3, vI l4]) (st' := [vI l3]) (g' := q1.2) k176_41 rfl rfl ?_
    exact q_e k176_42 rfl rfl rfl
  · refine q_s (pc' := 18) (ls' := [vR 137, vI l1, vI l2, vI l3, vI l4]) (st' := [vR 137]) (g' := q1.2) k176_17 rfl rfl ?_
    refine q_s (pc' := 19) (ls' := [vR 137, vI l1, vI l2, vI l3, vI l4]) (st' := [vI l1, vR 137]) (g' := q1.2) k176_18 rfl rfl ?_
    refine q_s (pc' := 21) (ls' := [vR 137, vI l1, vI l2, vI l3, vI l4]) (st' := [vI l4, vI l1, vR 137]) (g' := q1.2) k176_19 rfl rfl ?_
    refine q_callI (ls0 := [vR 137, vI l1, vI l4]) (rest := []) (pc' := 24) rfl k176_21 rfl (hy4 rfl rfl rfl rfl) rfl rfl hq_145 rfl (fun q3 => ?_)
    refine q_s (pc' := 25) (ls' := [vR 137, vI l1, vI l2, vI l3, vI l4]) (st' := [vI l2, vI q3.1]) (g' := q3.2) k176_24 rfl rfl ?_
    refine q_ic (P := q3.1 ≠ l2) (t := 33) (pc' := 28) k176_25 Iff.rfl rfl rfl (fun h4 => ?_) (fun h4 => ?_)
    · refine q_s (pc' := 34) (ls' := [vR 137, vI l1, vI l2, vI l3, vI l4]) (st' := [vI l3]) (g' := q3.2) k176_33 rfl rfl ?_
      refine q_s (pc' := 35) (ls' := [vR 137, vI l1, vI l2, vI l3, vI l4]) (st' := []) (g' := q3.2) k176_34 rfl rfl ?_
      refine q_s (pc' := 38) (ls' := [vR 137, vI l1, vI l2, vI l3, vI (iw (l4 + 1))]) (st' := []) (g' := q3.2) k176_35 rfl rfl ?_
      refine q_s (pc' := 7) (ls' := [vR 137, vI l1, vI l2, vI l3, vI (iw (l4 + 1))]) (st' := []) (g' := q3.2) k176_38 rfl rfl ?_
      rfl
    · refine q_s (pc' := 30) (ls' := [vR 137, vI l1, vI l2, vI l3, vI l4]) (st' := [vI l4]) (g' := q3.2) k176_28 rfl rfl ?_
      refine q_s (pc' := 34) (ls' := [vR 137, vI l1, vI l2, vI l3, vI l4]) (st' := [vI l4]) (g' := q3.2) k176_30 rfl rfl ?_
      refine q_s (pc' := 35) (ls' := [vR 137, vI l1, vI l2, vI l4, vI l4]) (st' := []) (g' := q3.2) k176_34 rfl rfl ?_
      refine q_s (pc' := 38) (ls' := [vR 137, vI l1, vI l2, vI l4, vI (iw (l4 + 1))]) (st' := []) (g' := q3.2) k176_35 rfl rfl ?_
      refine q_s (pc' := 7) (ls' := [vR 137, vI l1, vI l2, vI l4, vI (iw (l4 + 1))]) (st' := []) (g' := q3.2) k176_38 rfl rfl ?_
      rfl
set_option maxHeartbeats 4000000 in
theorem jM_lies_eq (L : Nat) (a1 : Int) (a2 : Int) (a3 : Int) (g : AMem) : jM_lies L a1 a2 a3 g = jM_lies_3 L a1 a2 a3 0 g := by
  unfold jM_lies
  refine q_s (pc' := 1) (ls' := [vR 137, vI a1, vI a2, vI a3, vU]) (st' := [vI 0]) (g' := g) k177_0 rfl rfl ?_
  refine q_s (pc' := 3) (ls' := [vR 137, vI a1, vI a2, vI a3, vI 0]) (st' := []) (g' := g) k177_1 rfl rfl ?_
  rfl
set_option maxHeartbeats 4000000 in
theorem jM_lies_3_eq (L : Nat) (l1 : Int) (l2 : Int) (l3 : Int) (l4 : Int) (g : AMem) : jM_lies_3 L l1 l2 l3 l4 g = (jM_manyOf L l1 g).bind (fun q1 => if q1.1 ≤ l4 then (some q1.2) else (if 0 ≤ l4 ∧ l4 < 6 then (if q1.2 149 l4 ≠ l2 then (if 0 ≤ l4 ∧ l4 < 6 then (if 0 ≤ l4 ∧ l4 < 6 then (jM_lies_3 L l1 l2 l3 (iw (l4 + 1)) (up q1.2 149 l4 (q1.2 149 l4))) else none) else none) else (if 0 ≤ l4 ∧ l4 < 6 then (jM_lies_3 L l1 l2 l3 (iw (l4 + 1)) (up q1.2 149 l4 l3)) else none)) else none)) := by
  unfold jM_lies_3
  refine q_s (pc' := 5) (ls' := [vR 137, vI l1, vI l2, vI l3, vI l4]) (st' := [vI l4]) (g' := g) k177_3 rfl rfl ?_
  refine q_s (pc' := 6) (ls' := [vR 137, vI l1, vI l2, vI l3, vI l4]) (st' := [vR 137, vI l4]) (g' := g) k177_5 rfl rfl ?_
  refine q_s (pc' := 7) (ls' := [vR 137, vI l1, vI l2, vI l3, vI l4]) (st' := [vI l1, vR 137, vI l4]) (g' := g) k177_6 rfl rfl ?_
  refine q_callI (ls0 := [vR 137, vI l1]) (rest := [vI l4]) (pc' := 10) rfl k177_7 rfl (hy4 rfl rfl rfl rfl) rfl rfl hq_146 rfl (fun q1 => ?_)
  refine q_ic (P := q1.1 ≤ l4) (t := 48) (pc' := 13) k177_10 Iff.rfl rfl rfl (fun h2 => ?_) (fun h2 => ?_)
  · exact q_e k177_48 rfl rfl rfl
  · refine q_s (pc' := 14) (ls' := [vR 137, vI l1, vI l2, vI l3, vI l4]) (st' := [vR 137]) (g' := q1.2) k177_13 rfl rfl ?_
    refine q_getF (r := 149) (pc' := 17) k177_14 rfl rfl rfl rfl ?_
    refine q_s (pc' := 19) (ls' := [vR 137, vI l1, vI l2, vI l3, vI l4]) (st' := [vI l4, vR 149]) (g' := q1.2) k177_17 rfl rfl ?_
    refine q_s (pc' := 20) (ls' := [vR 137, vI l1, vI l2, vI l3, vI l4]) (st' := [vR 137, vI l4, vR 149]) (g' := q1.2) k177_19 rfl rfl ?_
    refine q_getF (r := 149) (pc' := 23) k177_20 rfl rfl rfl rfl ?_
    refine q_s (pc' := 25) (ls' := [vR 137, vI l1, vI l2, vI l3, vI l4]) (st' := [vI l4, vR 149, vI l4, vR 149]) (g' := q1.2) k177_23 rfl rfl ?_
    refine q_iald (n := 6) (pc' := 26) rfl k177_25 rfl rfl (fun h3 => ?_)
    refine q_s (pc' := 27) (ls' := [vR 137, vI l1, vI l2, vI l3, vI l4]) (st' := [vI l2, vI (q1.2 149 l4), vI l4, vR 149]) (g' := q1.2) k177_26 rfl rfl ?_
    refine q_ic (P := q1.2 149 l4 ≠ l2) (t := 34) (pc' := 30) k177_27 Iff.rfl rfl rfl (fun h4 => ?_) (fun h4 => ?_)
    · refine q_s (pc' := 35) (ls' := [vR 137, vI l1, vI l2, vI l3, vI l4]) (st' := [vR 137, vI l4, vR 149]) (g' := q1.2) k177_34 rfl rfl ?_
      refine q_getF (r := 149) (pc' := 38) k177_35 rfl rfl rfl rfl ?_
      refine q_s (pc' := 40) (ls' := [vR 137, vI l1, vI l2, vI l3, vI l4]) (st' := [vI l4, vR 149, vI l4, vR 149]) (g' := q1.2) k177_38 rfl rfl ?_
      refine q_iald (n := 6) (pc' := 41) rfl k177_40 rfl rfl (fun h5 => ?_)
      refine q_iast (n := 6) (pc' := 42) rfl k177_41 rfl (by decide) rfl (fun h6 => ?_)
      refine q_s (pc' := 45) (ls' := [vR 137, vI l1, vI l2, vI l3, vI (iw (l4 + 1))]) (st' := []) (g' := up q1.2 149 l4 (q1.2 149 l4)) k177_42 rfl rfl ?_
      refine q_s (pc' := 3) (ls' := [vR 137, vI l1, vI l2, vI l3, vI (iw (l4 + 1))]) (st' := []) (g' := up q1.2 149 l4 (q1.2 149 l4)) k177_45 rfl rfl ?_
      rfl
    · refine q_s (pc' := 31) (ls' := [vR 137, vI l1, vI l2, vI l3, vI l4]) (st' := [vI l3, vI l4, vR 149]) (g' := q1.2) k177_30 rfl rfl ?_
      refine q_s (pc' := 41) (ls' := [vR 137, vI l1, vI l2, vI l3, vI l4]) (st' := [vI l3, vI l4, vR 149]) (g' := q1.2) k177_31 rfl rfl ?_
      refine q_iast (n := 6) (pc' := 42) rfl k177_41 rfl (by decide) rfl (fun h7 => ?_)
      refine q_s (pc' := 45) (ls' := [vR 137, vI l1, vI l2, vI l3, vI (iw (l4 + 1))]) (st' := []) (g' := up q1.2 149 l4 l3) k177_42 rfl rfl ?_
      refine q_s (pc' := 3) (ls' := [vR 137, vI l1, vI l2, vI l3, vI (iw (l4 + 1))]) (st' := []) (g' := up q1.2 149 l4 l3) k177_45 rfl rfl ?_
      rfl
set_option maxHeartbeats 4000000 in
theorem jM_movesTo_eq (L : Nat) (a1 : Int) (a2 : Int) (g : AMem) : jM_movesTo L a1 a2 g = (jM_parameterOf L a1 a2 g).bind (fun q1 => if 0 ≤ a2 ∧ a2 < 6 then ((jM_comes L 0 q1.1 (q1.2 149 a2) q1.2).bind (fun q3 => if (0 ≤ a2 ∧ a2 < 6) ∧ ((0 : Int) = 0 ∨ (0 : Int) = 1) then ((jM_lies L a1 (q1.2 149 a2) q1.1 (up q3 148 a2 0)).bind (fun q5 => some q5)) else none)) else none) := by
  unfold jM_movesTo
  refine q_s (pc' := 1) (ls' := [vR 137, vI a1, vI a2, vU, vU]) (st' := [vR 137]) (g' := g) k178_0 rfl rfl ?_
  refine q_s (pc' := 2) (ls' := [vR 137, vI a1, vI a2, vU, vU]) (st' := [vI a1, vR 137]) (g' := g) k178_1 rfl rfl ?_
  refine q_s (pc' := 3) (ls' := [vR 137, vI a1, vI a2, vU, vU]) (st' := [vI a2, vI a1, vR 137]) (g' := g) k178_2 rfl rfl ?_
  refine q_callI (ls0 := [vR 137, vI a1, vI a2]) (rest := []) (pc' := 6) rfl k178_3 rfl (hy4 rfl rfl rfl rfl) rfl rfl hq_145 rfl (fun q1 => ?_)
  refine q_s (pc' := 7) (ls' := [vR 137, vI a1, vI a2, vI q1.1, vU]) (st' := []) (g' := q1.2) k178_6 rfl rfl ?_
  refine q_s (pc' := 8) (ls' := [vR 137, vI a1, vI a2, vI q1.1, vU]) (st' := [vR 137]) (g' := q1.2) k178_7 rfl rfl ?_
  refine q_getF (r := 149) (pc' := 11) k178_8 rfl rfl rfl rfl ?_
  refine q_s (pc' := 12) (ls' := [vR 137, vI a1, vI a2, vI q1.1, vU]) (st' := [vI a2, vR 149]) (g' := q1.2) k178_11 rfl rfl ?_
  refine q_iald (n := 6) (pc' := 13) rfl k178_12 rfl rfl (fun h2 => ?_)
  refine q_s (pc' := 15) (ls' := [vR 137, vI a1, vI a2, vI q1.1, vI (q1.2 149 a2)]) (st' := []) (g' := q1.2) k178_13 rfl rfl ?_
  refine q_s (pc' := 16) (ls' := [vR 137, vI a1, vI a2, vI q1.1, vI (q1.2 149 a2)]) (st' := [vR 137]) (g' := q1.2) k178_15 rfl rfl ?_
  refine q_s (pc' := 17) (ls' := [vR 137, vI a1, vI a2, vI q1.1, vI (q1.2 149 a2)]) (st' := [vI 0, vR 137]) (g' := q1.2) k178_16 rfl rfl ?_
  refine q_s (pc' := 18) (ls' := [vR 137, vI a1, vI a2, vI q1.1, vI (q1.2 149 a2)]) (st' := [vI q1.1, vI 0, vR 137]) (g' := q1.2) k178_17 rfl rfl ?_
  refine q_s (pc' := 20) (ls' := [vR 137, vI a1, vI a2, vI q1.1, vI (q1.2 149 a2)]) (st' := [vI (q1.2 149 a2), vI q1.1, vI 0, vR 137]) (g' := q1.2) k178_18 rfl rfl ?_
  refine q_callV (ls0 := [vR 137, vI 0, vI q1.1, vI (q1.2 149 a2)]) (rest := []) (pc' := 23) rfl k178_20 rfl (hy4 rfl rfl rfl rfl) rfl rfl hq_172 rfl (fun q3 => ?_)
  refine q_s (pc' := 24) (ls' := [vR 137, vI a1, vI a2, vI q1.1, vI (q1.2 149 a2)]) (st' := [vR 137]) (g' := q3) k178_23 rfl rfl ?_
  refine q_getF (r := 148) (pc' := 27) k178_24 rfl rfl rfl rfl ?_
  refine q_s (pc' := 28) (ls' := [vR 137, vI a1, vI a2, vI q1.1, vI (q1.2 149 a2)]) (st' := [vI a2, vR 148]) (g' := q3) k178_27 rfl rfl ?_
  refine q_s (pc' := 29) (ls' := [vR 137, vI a1, vI a2, vI q1.1, vI (q1.2 149 a2)]) (st' := [vI 0, vI a2, vR 148]) (g' := q3) k178_28 rfl rfl ?_
  refine q_bast (n := 6) (pc' := 30) rfl k178_29 rfl rfl (fun h4 => ?_)
  refine q_s (pc' := 31) (ls' := [vR 137, vI a1, vI a2, vI q1.1, vI (q1.2 149 a2)]) (st' := [vR 137]) (g' := up q3 148 a2 0) k178_30 rfl rfl ?_
  refine q_s (pc' := 32) (ls' := [vR 137, vI a1, vI a2, vI q1.1, vI (q1.2 149 a2)]) (st' := [vI a1, vR 137]) (g' := up q3 148 a2 0) k178_31 rfl rfl ?_
  refine q_s (pc' := 34) (ls' := [vR 137, vI a1, vI a2, vI q1.1, vI (q1.2 149 a2)]) (st' := [vI (q1.2 149 a2), vI a1, vR 137]) (g' := up q3 148 a2 0) k178_32 rfl rfl ?_
  refine q_s (pc' := 35) (ls' := [vR 137, vI a1, vI a2, vI q1.1, vI (q1.2 149 a2)]) (st' := [vI q1.1, vI (q1.2 149 a2), vI a1, vR 137]) (g' := up q3 148 a2 0) k178_34 rfl rfl ?_
  refine q_callV (ls0 := [vR 137, vI a1, vI (q1.2 149 a2), vI q1.1, vU]) (rest := []) (pc' := 38) rfl k178_35 rfl (hy4 rfl rfl rfl rfl) rfl rfl hq_177 rfl (fun q5 => ?_)
  exact q_e k178_38 rfl rfl rfl
set_option maxHeartbeats 4000000 in
theorem jM_breaks_eq (L : Nat) (a1 : Int) (a2 : Int) (a3 : Int) (g : AMem) : jM_breaks L a1 a2 a3 g = (jM_parameterOf L a1 a2 g).bind (fun q1 => (jM_widthOf L q1.1 q1.2).bind (fun q2 => if 0 ≤ a2 ∧ a2 < 6 then ((jM_whoHas L a1 (q2.2 149 a2) q2.2).bind (fun q4 => jM_breaks_31 L a1 a2 a3 q1.1 q2.1 1 q4.1 q4.2)) else none)) := by
  unfold jM_breaks
  refine q_s (pc' := 1) (ls' := [vR 137, vI a1, vI a2, vI a3, vU, vU, vU, vU, vU, vU]) (st' := [vR 137]) (g' := g) k179_0 rfl rfl ?_
  refine q_s (pc' := 2) (ls' := [vR 137, vI a1, vI a2, vI a3, vU, vU, vU, vU, vU, vU]) (st' := [vI a1, vR 137]) (g' := g) k179_1 rfl rfl ?_
  refine q_s (pc' := 3) (ls' := [vR 137, vI a1, vI a2, vI a3, vU, vU, vU, vU, vU, vU]) (st' := [vI a2, vI a1, vR 137]) (g' := g) k179_2 rfl rfl ?_
  refine q_callI (ls0 := [vR 137, vI a1, vI a2]) (rest := []) (pc' := 6) rfl k179_3 rfl (hy4 rfl rfl rfl rfl) rfl rfl hq_145 rfl (fun q1 => ?_)
  refine q_s (pc' := 8) (ls' := [vR 137, vI a1, vI a2, vI a3, vI q1.1, vU, vU, vU, vU, vU]) (st' := []) (g' := q1.2) k179_6 rfl rfl ?_
  refine q_s (pc' := 10) (ls' := [vR 137, vI a1, vI a2, vI a3, vI q1.1, vU, vU, vU, vU, vU]) (st' := [vI q1.1]) (g' := q1.2) k179_8 rfl rfl ?_
  refine q_callI (ls0 := [vI q1.1]) (rest := []) (pc' := 13) rfl k179_10 rfl (hy4 rfl rfl rfl rfl) rfl rfl hq_137 rfl (fun q2 => ?_)
  refine q_s (pc' := 15) (ls' := [vR 137, vI a1, vI a2, vI a3, vI q1.1, vI q2.1, vU, vU, vU, vU]) (st' := []) (g' := q2.2) k179_13 rfl rfl ?_
  refine q_s (pc' := 16) (ls' := [vR 137, vI a1, vI a2, vI a3, vI q1.1, vI q2.1, vU, vU, vU, vU]) (st' := [vI 1]) (g' := q2.2) k179_15 rfl rfl ?_
  refine q_s (pc' := 18) (ls' := [vR 137, vI a1, vI a2, vI a3, vI q1.1, vI q2.1, vI 1, vU, vU, vU]) (st' := []) (g' := q2.2) k179_16 rfl rfl ?_
  refine q_s (pc' := 19) (ls' := [vR 137, vI a1, vI a2, vI a3, vI q1.1, vI q2.1, vI 1, vU, vU, vU]) (st' := [vR 137]) (g' := q2.2) k179_18 rfl rfl ?_
  refine q_s (pc' := 20) (ls' := [vR 137, vI a1, vI a2, vI a3, vI q1.1, vI q2.1, vI 1, vU, vU, vU]) (st' := [vI a1, vR 137]) (g' := q2.2) k179_19 rfl rfl ?_
  refine q_s (pc' := 21) (ls' := [vR 137, vI a1, vI a2, vI a3, vI q1.1, vI q2.1, vI 1, vU, vU, vU]) (st' := [vR 137, vI a1, vR 137]) (g' := q2.2) k179_20 rfl rfl ?_
  refine q_getF (r := 149) (pc' := 24) k179_21 rfl rfl rfl rfl ?_
  refine q_s (pc' := 25) (ls' := [vR 137, vI a1, vI a2, vI a3, vI q1.1, vI q2.1, vI 1, vU, vU, vU]) (st' := [vI a2, vR 149, vI a1, vR 137]) (g' := q2.2) k179_24 rfl rfl ?_
  refine q_iald (n := 6) (pc' := 26) rfl k179_25 rfl rfl (fun h3 => ?_)
  refine q_callI (ls0 := [vR 137, vI a1, vI (q2.2 149 a2), vU, vU]) (rest := []) (pc' := 29) rfl k179_26 rfl (hy4 rfl rfl rfl rfl) rfl rfl hq_176 rfl (fun q4 => ?_)
  refine q_s (pc' := 31) (ls' := [vR 137, vI a1, vI a2, vI a3, vI q1.1, vI q2.1, vI 1, vI q4.1, vU, vU]) (st' := []) (g' := q4.2) k179_29 rfl rfl ?_
  rfl
set_option maxHeartbeats 4000000 in
theorem jM_breaks_31_eq (L : Nat) (l1 : Int) (l2 : Int) (l3 : Int) (l4 : Int) (l5 : Int) (l6 : Int) (l7 : Int) (g : AMem) : jM_breaks_31 L l1 l2 l3 l4 l5 l6 l7 g = if l7 = l2 then ((jM_changeCost L l3 l5 g).bind (fun q6 => if q6.1 = 0 then ((jM_comes L 0 (iw (320 + l5)) l4 q6.2).bind (fun q8 => (jM_lies L l1 l4 (iw (320 + l5)) q8).bind (fun q9 => some q9))) else ((jM_moveCost L l3 l5 q6.2).bind (fun q10 => if iw ((iw (l6 - 1)) * q6.1) < iw ((iw (l6 + 1)) * q10.1) then (jM_breaks_124 L l1 l2 l3 l4 l5 l6 q6.1 l2 1 q10.2) else ((jM_comes L 0 (iw (320 + l5)) l4 q10.2).bind (fun q12 => (jM_lies L l1 l4 (iw (320 + l5)) q12).bind (fun q13 => some q13))))))) else (if 0 ≤ l7 ∧ l7 < 6 then ((jM_whoHas L l1 (g 149 l7) g).bind (fun q15 => jM_breaks_31 L l1 l2 l3 l4 l5 (iw (l6 + 1)) q15.1 q15.2)) else none) := by
  unfold jM_breaks_31
  refine q_s (pc' := 33) (ls' := [vR 137, vI l1, vI l2, vI l3, vI l4, vI l5, vI l6, vI l7, vU, vU]) (st' := [vI l7]) (g' := g) k179_31 rfl rfl ?_
  refine q_s (pc' := 34) (ls' := [vR 137, vI l1, vI l2, vI l3, vI l4, vI l5, vI l6, vI l7, vU, vU]) (st' := [vI l2, vI l7]) (g' := g) k179_33 rfl rfl ?_
  refine q_ic (P := l7 = l2) (t := 57) (pc' := 37) k179_34 Iff.rfl rfl rfl (fun h5 => ?_) (fun h5 => ?_)
  · refine q_s (pc' := 58) (ls' := [vR 137, vI l1, vI l2, vI l3, vI l4, vI l5, vI l6, vI l7, vU, vU]) (st' := [vI l3]) (g' := g) k179_57 rfl rfl ?_
    refine q_s (pc' := 60) (ls' := [vR 137, vI l1, vI l2, vI l3, vI l4, vI l5, vI l6, vI l7, vU, vU]) (st' := [vI l5, vI l3]) (g' := g) k179_58 rfl rfl ?_
    refine q_callI (ls0 := [vI l3, vI l5]) (rest := []) (pc' := 63) rfl k179_60 rfl (hy4 rfl rfl rfl rfl) rfl rfl hq_171 rfl (fun q6 => ?_)
    refine q_s (pc' := 65) (ls' := [vR 137, vI l1, vI l2, vI l3, vI l4, vI l5, vI l6, vI q6.1, vU, vU]) (st' := []) (g' := q6.2) k179_63 rfl rfl ?_
    refine q_s (pc' := 67) (ls' := [vR 137, vI l1, vI l2, vI l3, vI l4, vI l5, vI l6, vI q6.1, vU, vU]) (st' := [vI q6.1]) (g' := q6.2) k179_65 rfl rfl ?_
    refine q_if (P := q6.1 = 0) (t := 91) (pc' := 70) k179_67 Iff.rfl rfl rfl (fun h7 => ?_) (fun h7 => ?_)
    · refine q_s (pc' := 92) (ls' := [vR 137, vI l1, vI l2, vI l3, vI l4, vI l5, vI l6, vI q6.1, vU, vU]) (st' := [vR 137]) (g' := q6.2) k179_91 rfl rfl ?_
      refine q_s (pc' := 93) (ls' := [vR 137, vI l1, vI l2, vI l3, vI l4, vI l5, vI l6, vI q6.1, vU, vU]) (st' := [vI 0, vR 137]) (g' := q6.2) k179_92 rfl rfl ?_
      refine q_s (pc' := 96) (ls' := [vR 137, vI l1, vI l2, vI l3, vI l4, vI l5, vI l6, vI q6.1, vU, vU]) (st' := [vI 320, vI 0, vR 137]) (g' := q6.2) k179_93 rfl rfl ?_
      refine q_s (pc' := 98) (ls' := [vR 137, vI l1, vI l2, vI l3, vI l4, vI l5, vI l6, vI q6.1, vU, vU]) (st' := [vI l5, vI 320, vI 0, vR 137]) (g' := q6.2) k179_96 rfl rfl ?_
      refine q_s (pc' := 99) (ls' := [vR 137, vI l1, vI l2, vI l3, vI l4, vI l5, vI l6, vI q6.1, vU, vU]) (st' := [vI (iw (320 + l5)), vI 0, vR 137]) (g' := q6.2) k179_98 rfl rfl ?_
      refine q_s (pc' := 101) (ls' := [vR 137, vI l1, vI l2, vI l3, vI l4, vI l5, vI l6, vI q6.1, vU, vU]) (st' := [vI l4, vI (iw (320 + l5)), vI 0, vR 137]) (g' := q6.2) k179_99 rfl rfl ?_
      refine q_callV (ls0 := [vR 137, vI 0, vI (iw (320 + l5)), vI l4]) (rest := []) (pc' := 104) rfl k179_101 rfl (hy4 rfl rfl rfl rfl) rfl rfl hq_172 rfl (fun q8 => ?_)
      refine q_s (pc' := 105) (ls' := [vR 137, vI l1, vI l2, vI l3, vI l4, vI l5, vI l6, vI q6.1, vU, vU]) (st' := [vR 137]) (g' := q8) k179_104 rfl rfl ?_
      refine q_s (pc' := 106) (ls' := [vR 137, vI l1, vI l2, vI l3, vI l4, vI l5, vI l6, vI q6.1, vU, vU]) (st' := [vI l1, vR 137]) (g' := q8) k179_105 rfl rfl ?_
      refine q_s (pc' := 108) (ls' := [vR 137, vI l1, vI l2, vI l3, vI l4, vI l5, vI l6, vI q6.1, vU, vU]) (st' := [vI l4, vI l1, vR 137]) (g' := q8) k179_106 rfl rfl ?_
      refine q_s (pc' := 111) (ls' := [vR 137, vI l1, vI l2, vI l3, vI l4, vI l5, vI l6, vI q6.1, vU, vU]) (st' := [vI 320, vI l4, vI l1, vR 137]) (g' := q8) k179_108 rfl rfl ?_
      refine q_s (pc' := 113) (ls' := [vR 137, vI l1, vI l2, vI l3, vI l4, vI l5, vI l6, vI q6.1, vU, vU]) (st' := [vI l5, vI 320, vI l4, vI l1, vR 137]) (g' := q8) k179_111 rfl rfl ?_
      refine q_s (pc' := 114) (ls' := [vR 137, vI l1, vI l2, vI l3, vI l4, vI l5, vI l6, vI q6.1, vU, vU]) (st' := [vI (iw (320 + l5)), vI l4, vI l1, vR 137]) (g' := q8) k179_113 rfl rfl ?_
      refine q_callV (ls0 := [vR 137, vI l1, vI l4, vI (iw (320 + l5)), vU]) (rest := []) (pc' := 117) rfl k179_114 rfl (hy4 rfl rfl rfl rfl) rfl rfl hq_177 rfl (fun q9 => ?_)
      exact q_e k179_117 rfl rfl rfl
    · refine q_s (pc' := 72) (ls' := [vR 137, vI l1, vI l2, vI l3, vI l4, vI l5, vI l6, vI q6.1, vU, vU]) (st' := [vI l6]) (g' := q6.2) k179_70 rfl rfl ?_
      refine q_s (pc' := 73) (ls' := [vR 137, vI l1, vI l2, vI l3, vI l4, vI l5, vI l6, vI q6.1, vU, vU]) (st' := [vI 1, vI l6]) (g' := q6.2) k179_72 rfl rfl ?_
      refine q_s (pc' := 74) (ls' := [vR 137, vI l1, vI l2, vI l3, vI l4, vI l5, vI l6, vI q6.1, vU, vU]) (st' := [vI (iw (l6 - 1))]) (g' := q6.2) k179_73 rfl rfl ?_
      refine q_s (pc' := 76) (ls' := [vR 137, vI l1, vI l2, vI l3, vI l4, vI l5, vI l6, vI q6.1, vU, vU]) (st' := [vI q6.1, vI (iw (l6 - 1))]) (g' := q6.2) k179_74 rfl rfl ?_
      refine q_s (pc' := 77) (ls' := [vR 137, vI l1, vI l2, vI l3, vI l4, vI l5, vI l6, vI q6.1, vU, vU]) (st' := [vI (iw ((iw (l6 - 1)) * q6.1))]) (g' := q6.2) k179_76 rfl rfl ?_
      refine q_s (pc' := 79) (ls' := [vR 137, vI l1, vI l2, vI l3, vI l4, vI l5, vI l6, vI q6.1, vU, vU]) (st' := [vI l6, vI (iw ((iw (l6 - 1)) * q6.1))]) (g' := q6.2) k179_77 rfl rfl ?_
      refine q_s (pc' := 80) (ls' := [vR 137, vI l1, vI l2, vI l3, vI l4, vI l5, vI l6, vI q6.1, vU, vU]) (st' := [vI 1, vI l6, vI (iw ((iw (l6 - 1)) * q6.1))]) (g' := q6.2) k179_79 rfl rfl ?_
      refine q_s (pc' := 81) (ls' := [vR 137, vI l1, vI l2, vI l3, vI l4, vI l5, vI l6, vI q6.1, vU, vU]) (st' := [vI (iw (l6 + 1)), vI (iw ((iw (l6 - 1)) * q6.1))]) (g' := q6.2) k179_80 rfl rfl ?_
      refine q_s (pc' := 82) (ls' := [vR 137, vI l1, vI l2, vI l3, vI l4, vI l5, vI l6, vI q6.1, vU, vU]) (st' := [vI l3, vI (iw (l6 + 1)), vI (iw ((iw (l6 - 1)) * q6.1))]) (g' := q6.2) k179_81 rfl rfl ?_
      refine q_s (pc' := 84) (ls' := [vR 137, vI l1, vI l2, vI l3, vI l4, vI l5, vI l6, vI q6.1, vU, vU]) (st' := [vI l5, vI l3, vI (iw (l6 + 1)), vI (iw ((iw (l6 - 1)) * q6.1))]) (g' := q6.2) k179_82 rfl rfl ?_
      refine q_callI (ls0 := [vI l3, vI l5]) (rest := [vI (iw (l6 + 1)), vI (iw ((iw (l6 - 1)) * q6.1))]) (pc' := 87) rfl k179_84 rfl (hy4 rfl rfl rfl rfl) rfl rfl hq_170 rfl (fun q10 => ?_)
      refine q_s (pc' := 88) (ls' := [vR 137, vI l1, vI l2, vI l3, vI l4, vI l5, vI l6, vI q6.1, vU, vU]) (st' := [vI (iw ((iw (l6 + 1)) * q10.1)), vI (iw ((iw (l6 - 1)) * q6.1))]) (g' := q10.2) k179_87 rfl rfl ?_
      refine q_ic (P := iw ((iw (l6 - 1)) * q6.1) < iw ((iw (l6 + 1)) * q10.1)) (t := 118) (pc' := 91) k179_88 Iff.rfl rfl rfl (fun h11 => ?_) (fun h11 => ?_)
      · refine q_s (pc' := 119) (ls' := [vR 137, vI l1, vI l2, vI l3, vI l4, vI l5, vI l6, vI q6.1, vU, vU]) (st' := [vI l2]) (g' := q10.2) k179_118 rfl rfl ?_
        refine q_s (pc' := 121) (ls' := [vR 137, vI l1, vI l2, vI l3, vI l4, vI l5, vI l6, vI q6.1, vI l2, vU]) (st' := []) (g' := q10.2) k179_119 rfl rfl ?_
        refine q_s (pc' := 122) (ls' := [vR 137, vI l1, vI l2, vI l3, vI l4, vI l5, vI l6, vI q6.1, vI l2, vU]) (st' := [vI 1]) (g' := q10.2) k179_121 rfl rfl ?_
        refine q_s (pc' := 124) (ls' := [vR 137, vI l1, vI l2, vI l3, vI l4, vI l5, vI l6, vI q6.1, vI l2, vI 1]) (st' := []) (g' := q10.2) k179_122 rfl rfl ?_
        rfl
      · refine q_s (pc' := 92) (ls' := [vR 137, vI l1, vI l2, vI l3, vI l4, vI l5, vI l6, vI q6.1, vU, vU]) (st' := [vR 137]) (g' := q10.2) k179_91 rfl rfl ?_
        refine q_s (pc' := 93) (ls' := [vR 137, vI l1, vI l2, vI l3, vI l4, vI l5, vI l6, vI q6.1, vU, vU]) (st' := [vI 0, vR 137]) (g' := q10.2) k179_92 rfl rfl ?_
        refine q_s (pc' := 96) (ls' := [vR 137, vI l1, vI l2, vI l3, vI l4, vI l5, vI l6, vI q6.1, vU, vU]) (st' := [vI 320, vI 0, vR 137]) (g' := q10.2) k179_93 rfl rfl ?_
        refine q_s (pc' := 98) (ls' := [vR 137, vI l1, vI l2, vI l3, vI l4, vI l5, vI l6, vI q6.1, vU, vU]) (st' := [vI l5, vI 320, vI 0, vR 137]) (g' := q10.2) k179_96 rfl rfl ?_
        refine q_s (pc' := 99) (ls' := [vR 137, vI l1, vI l2, vI l3, vI l4, vI l5, vI l6, vI q6.1, vU, vU]) (st' := [vI (iw (320 + l5)), vI 0, vR 137]) (g' := q10.2) k179_98 rfl rfl ?_
        refine q_s (pc' := 101) (ls' := [vR 137, vI l1, vI l2, vI l3, vI l4, vI l5, vI l6, vI q6.1, vU, vU]) (st' := [vI l4, vI (iw (320 + l5)), vI 0, vR 137]) (g' := q10.2) k179_99 rfl rfl ?_
        refine q_callV (ls0 := [vR 137, vI 0, vI (iw (320 + l5)), vI l4]) (rest := []) (pc' := 104) rfl k179_101 rfl (hy4 rfl rfl rfl rfl) rfl rfl hq_172 rfl (fun q12 => ?_)
        refine q_s (pc' := 105) (ls' := [vR 137, vI l1, vI l2, vI l3, vI l4, vI l5, vI l6, vI q6.1, vU, vU]) (st' := [vR 137]) (g' := q12) k179_104 rfl rfl ?_
        refine q_s (pc' := 106) (ls' := [vR 137, vI l1, vI l2, vI l3, vI l4, vI l5, vI l6, vI q6.1, vU, vU]) (st' := [vI l1, vR 137]) (g' := q12) k179_105 rfl rfl ?_
        refine q_s (pc' := 108) (ls' := [vR 137, vI l1, vI l2, vI l3, vI l4, vI l5, vI l6, vI q6.1, vU, vU]) (st' := [vI l4, vI l1, vR 137]) (g' := q12) k179_106 rfl rfl ?_
        refine q_s (pc' := 111) (ls' := [vR 137, vI l1, vI l2, vI l3, vI l4, vI l5, vI l6, vI q6.1, vU, vU]) (st' := [vI 320, vI l4, vI l1, vR 137]) (g' := q12) k179_108 rfl rfl ?_
        refine q_s (pc' := 113) (ls' := [vR 137, vI l1, vI l2, vI l3, vI l4, vI l5, vI l6, vI q6.1, vU, vU]) (st' := [vI l5, vI 320, vI l4, vI l1, vR 137]) (g' := q12) k179_111 rfl rfl ?_
        refine q_s (pc' := 114) (ls' := [vR 137, vI l1, vI l2, vI l3, vI l4, vI l5, vI l6, vI q6.1, vU, vU]) (st' := [vI (iw (320 + l5)), vI l4, vI l1, vR 137]) (g' := q12) k179_113 rfl rfl ?_
        refine q_callV (ls0 := [vR 137, vI l1, vI l4, vI (iw (320 + l5)), vU]) (rest := []) (pc' := 117) rfl k179_114 rfl (hy4 rfl rfl rfl rfl) rfl rfl hq_177 rfl (fun q13 => ?_)
        exact q_e k179_117 rfl rfl rfl
  · refine q_s (pc' := 40) (ls' := [vR 137, vI l1, vI l2, vI l3, vI l4, vI l5, vI (iw (l6 + 1)), vI l7, vU, vU]) (st' := []) (g' := g) k179_37 rfl rfl ?_
    refine q_s (pc' := 41) (ls' := [vR 137, vI l1, vI l2, vI l3, vI l4, vI l5, vI (iw (l6 + 1)), vI l7, vU, vU]) (st' := [vR 137]) (g' := g) k179_40 rfl rfl ?_
    refine q_s (pc' := 42) (ls' := [vR 137, vI l1, vI l2, vI l3, vI l4, vI l5, vI (iw (l6 + 1)), vI l7, vU, vU]) (st' := [vI l1, vR 137]) (g' := g) k179_41 rfl rfl ?_
    refine q_s (pc' := 43) (ls' := [vR 137, vI l1, vI l2, vI l3, vI l4, vI l5, vI (iw (l6 + 1)), vI l7, vU, vU]) (st' := [vR 137, vI l1, vR 137]) (g' := g) k179_42 rfl rfl ?_
    refine q_getF (r := 149) (pc' := 46) k179_43 rfl rfl rfl rfl ?_
    refine q_s (pc' := 48) (ls' := [vR 137, vI l1, vI l2, vI l3, vI l4, vI l5, vI (iw (l6 + 1)), vI l7, vU, vU]) (st' := [vI l7, vR 149, vI l1, vR 137]) (g' := g) k179_46 rfl rfl ?_
    refine q_iald (n := 6) (pc' := 49) rfl k179_48 rfl rfl (fun h14 => ?_)
    refine q_callI (ls0 := [vR 137, vI l1, vI (g 149 l7), vU, vU]) (rest := []) (pc' := 52) rfl k179_49 rfl (hy4 rfl rfl rfl rfl) rfl rfl hq_176 rfl (fun q15 => ?_)
    refine q_s (pc' := 54) (ls' := [vR 137, vI l1, vI l2, vI l3, vI l4, vI l5, vI (iw (l6 + 1)), vI q15.1, vU, vU]) (st' := []) (g' := q15.2) k179_52 rfl rfl ?_
    refine q_s (pc' := 31) (ls' := [vR 137, vI l1, vI l2, vI l3, vI l4, vI l5, vI (iw (l6 + 1)), vI q15.1, vU, vU]) (st' := []) (g' := q15.2) k179_54 rfl rfl ?_
    rfl
set_option maxHeartbeats 4000000 in
theorem jM_breaks_124_eq (L : Nat) (l1 : Int) (l2 : Int) (l3 : Int) (l4 : Int) (l5 : Int) (l6 : Int) (l7 : Int) (l8 : Int) (l9 : Int) (g : AMem) : jM_breaks_124 L l1 l2 l3 l4 l5 l6 l7 l8 l9 g = if l6 ≤ l9 then (if (0 ≤ l8 ∧ l8 < 6) ∧ ((0 : Int) = 0 ∨ (0 : Int) = 1) then (some (up g 148 l8 0)) else none) else ((jM_parameterOf L l1 l8 g).bind (fun q18 => if 0 ≤ l8 ∧ l8 < 6 then ((jM_comes L 1 q18.1 (q18.2 149 l8) q18.2).bind (fun q20 => if (0 ≤ l8 ∧ l8 < 6) ∧ ((0 : Int) = 0 ∨ (0 : Int) = 1) then (if 0 ≤ l8 ∧ l8 < 6 then ((jM_whoHas L l1 ((up q20 148 l8 0) 149 l8) (up q20 148 l8 0)).bind (fun q23 => jM_breaks_124 L l1 l2 l3 l4 l5 l6 l7 q23.1 (iw (l9 + 1)) q23.2)) else none) else none)) else none)) := by
  unfold jM_breaks_124
  refine q_s (pc' := 126) (ls' := [vR 137, vI l1, vI l2, vI l3, vI l4, vI l5, vI l6, vI l7, vI l8, vI l9]) (st' := [vI l9]) (g' := g) k179_124 rfl rfl ?_
  refine q_s (pc' := 128) (ls' := [vR 137, vI l1, vI l2, vI l3, vI l4, vI l5, vI l6, vI l7, vI l8, vI l9]) (st' := [vI l6, vI l9]) (g' := g) k179_126 rfl rfl ?_
  refine q_ic (P := l6 ≤ l9) (t := 178) (pc' := 131) k179_128 Iff.rfl rfl rfl (fun h16 => ?_) (fun h16 => ?_)
  · refine q_s (pc' := 179) (ls' := [vR 137, vI l1, vI l2, vI l3, vI l4, vI l5, vI l6, vI l7, vI l8, vI l9]) (st' := [vR 137]) (g' := g) k179_178 rfl rfl ?_
    refine q_getF (r := 148) (pc' := 182) k179_179 rfl rfl rfl rfl ?_
    refine q_s (pc' := 184) (ls' := [vR 137, vI l1, vI l2, vI l3, vI l4, vI l5, vI l6, vI l7, vI l8, vI l9]) (st' := [vI l8, vR 148]) (g' := g) k179_182 rfl rfl ?_
    refine q_s (pc' := 185) (ls' := [vR 137, vI l1, vI l2, vI l3, vI l4, vI l5, vI l6, vI l7, vI l8, vI l9]) (st' := [vI 0, vI l8, vR 148]) (g' := g) k179_184 rfl rfl ?_
    refine q_bast (n := 6) (pc' := 186) rfl k179_185 rfl rfl (fun h17 => ?_)
    exact q_e k179_186 rfl rfl rfl
  · refine q_s (pc' := 132) (ls' := [vR 137, vI l1, vI l2, vI l3, vI l4, vI l5, vI l6, vI l7, vI l8, vI l9]) (st' := [vR 137]) (g' := g) k179_131 rfl rfl ?_
    refine q_s (pc' := 133) (ls' := [vR 137, vI l1, vI l2, vI l3, vI l4, vI l5, vI l6, vI l7, vI l8, vI l9]) (st' := [vI 1, vR 137]) (g' := g) k179_132 rfl rfl ?_
    refine q_s (pc' := 134) (ls' := [vR 137, vI l1, vI l2, vI l3, vI l4, vI l5, vI l6, vI l7, vI l8, vI l9]) (st' := [vR 137, vI 1, vR 137]) (g' := g) k179_133 rfl rfl ?_
    refine q_s (pc' := 135) (ls' := [vR 137, vI l1, vI l2, vI l3, vI l4, vI l5, vI l6, vI l7, vI l8, vI l9]) (st' := [vI l1, vR 137, vI 1, vR 137]) (g' := g) k179_134 rfl rfl ?_
    refine q_s (pc' := 137) (ls' := [vR 137, vI l1, vI l2, vI l3, vI l4, vI l5, vI l6, vI l7, vI l8, vI l9]) (st' := [vI l8, vI l1, vR 137, vI 1, vR 137]) (g' := g) k179_135 rfl rfl ?_
    refine q_callI (ls0 := [vR 137, vI l1, vI l8]) (rest := [vI 1, vR 137]) (pc' := 140) rfl k179_137 rfl (hy4 rfl rfl rfl rfl) rfl rfl hq_145 rfl (fun q18 => ?_)
    refine q_s (pc' := 141) (ls' := [vR 137, vI l1, vI l2, vI l3, vI l4, vI l5, vI l6, vI l7, vI l8, vI l9]) (st' := [vR 137, vI q18.1, vI 1, vR 137]) (g' := q18.2) k179_140 rfl rfl ?_
    refine q_getF (r := 149) (pc' := 144) k179_141 rfl rfl rfl rfl ?_
    refine q_s (pc' := 146) (ls' := [vR 137, vI l1, vI l2, vI l3, vI l4, vI l5, vI l6, vI l7, vI l8, vI l9]) (st' := [vI l8, vR 149, vI q18.1, vI 1, vR 137]) (g' := q18.2) k179_144 rfl rfl ?_
    refine q_iald (n := 6) (pc' := 147) rfl k179_146 rfl rfl (fun h19 => ?_)
    refine q_callV (ls0 := [vR 137, vI 1, vI q18.1, vI (q18.2 149 l8)]) (rest := []) (pc' := 150) rfl k179_147 rfl (hy4 rfl rfl rfl rfl) rfl rfl hq_172 rfl (fun q20 => ?_)
    refine q_s (pc' := 151) (ls' := [vR 137, vI l1, vI l2, vI l3, vI l4, vI l5, vI l6, vI l7, vI l8, vI l9]) (st' := [vR 137]) (g' := q20) k179_150 rfl rfl ?_
    refine q_getF (r := 148) (pc' := 154) k179_151 rfl rfl rfl rfl ?_
    refine q_s (pc' := 156) (ls' := [vR 137, vI l1, vI l2, vI l3, vI l4, vI l5, vI l6, vI l7, vI l8, vI l9]) (st' := [vI l8, vR 148]) (g' := q20) k179_154 rfl rfl ?_
    refine q_s (pc' := 157) (ls' := [vR 137, vI l1, vI l2, vI l3, vI l4, vI l5, vI l6, vI l7, vI l8, vI l9]) (st' := [vI 0, vI l8, vR 148]) (g' := q20) k179_156 rfl rfl ?_
    refine q_bast (n := 6) (pc' := 158) rfl k179_157 rfl rfl (fun h21 => ?_)
    refine q_s (pc' := 159) (ls' := [vR 137, vI l1, vI l2, vI l3, vI l4, vI l5, vI l6, vI l7, vI l8, vI l9]) (st' := [vR 137]) (g' := up q20 148 l8 0) k179_158 rfl rfl ?_
    refine q_s (pc' := 160) (ls' := [vR 137, vI l1, vI l2, vI l3, vI l4, vI l5, vI l6, vI l7, vI l8, vI l9]) (st' := [vI l1, vR 137]) (g' := up q20 148 l8 0) k179_159 rfl rfl ?_
    refine q_s (pc' := 161) (ls' := [vR 137, vI l1, vI l2, vI l3, vI l4, vI l5, vI l6, vI l7, vI l8, vI l9]) (st' := [vR 137, vI l1, vR 137]) (g' := up q20 148 l8 0) k179_160 rfl rfl ?_
    refine q_getF (r := 149) (pc' := 164) k179_161 rfl rfl rfl rfl ?_
    refine q_s (pc' := 166) (ls' := [vR 137, vI l1, vI l2, vI l3, vI l4, vI l5, vI l6, vI l7, vI l8, vI l9]) (st' := [vI l8, vR 149, vI l1, vR 137]) (g' := up q20 148 l8 0) k179_164 rfl rfl ?_
    refine q_iald (n := 6) (pc' := 167) rfl k179_166 rfl rfl (fun h22 => ?_)
    refine q_callI (ls0 := [vR 137, vI l1, vI ((up q20 148 l8 0) 149 l8), vU, vU]) (rest := []) (pc' := 170) rfl k179_167 rfl (hy4 rfl rfl rfl rfl) rfl rfl hq_176 rfl (fun q23 => ?_)
    refine q_s (pc' := 172) (ls' := [vR 137, vI l1, vI l2, vI l3, vI l4, vI l5, vI l6, vI l7, vI q23.1, vI l9]) (st' := []) (g' := q23.2) k179_170 rfl rfl ?_
    refine q_s (pc' := 175) (ls' := [vR 137, vI l1, vI l2, vI l3, vI l4, vI l5, vI l6, vI l7, vI q23.1, vI (iw (l9 + 1))]) (st' := []) (g' := q23.2) k179_172 rfl rfl ?_
    refine q_s (pc' := 124) (ls' := [vR 137, vI l1, vI l2, vI l3, vI l4, vI l5, vI l6, vI l7, vI q23.1, vI (iw (l9 + 1))]) (st' := []) (g' := q23.2) k179_175 rfl rfl ?_
    rfl
set_option maxHeartbeats 4000000 in
theorem jM_setOpen_eq (L : Nat) (a1 : Int) (g : AMem) : jM_setOpen L a1 g = jM_setOpen_2 L a1 0 g := by
  unfold jM_setOpen
  refine q_s (pc' := 1) (ls' := [vR 137, vI a1, vU]) (st' := [vI 0]) (g' := g) k180_0 rfl rfl ?_
  refine q_s (pc' := 2) (ls' := [vR 137, vI a1, vI 0]) (st' := []) (g' := g) k180_1 rfl rfl ?_
  rfl
set_option maxHeartbeats 4000000 in
theorem jM_setOpen_2_eq (L : Nat) (l1 : Int) (l2 : Int) (g : AMem) : jM_setOpen_2 L l1 l2 g = (jM_manyOf L l1 g).bind (fun q1 => if q1.1 ≤ l2 then (some q1.2) else ((jM_moves L l1 l2 q1.2).bind (fun q3 => if q3.1 = 0 then (if (0 ≤ l2 ∧ l2 < 6) ∧ ((0 : Int) = 0 ∨ (0 : Int) = 1) then (if 0 ≤ l2 ∧ l2 < 6 then (if (up q3.2 148 l2 0) 148 l2 = 0 then (if 0 ≤ l2 ∧ l2 < 6 then (jM_setOpen_2 L l1 (iw (l2 + 1)) (up (up q3.2 148 l2 0) 149 l2 (-201))) else none) else ((jM_givenOf L l1 l2 (up q3.2 148 l2 0)).bind (fun q9 => if 0 ≤ l2 ∧ l2 < 6 then (jM_setOpen_2 L l1 (iw (l2 + 1)) (up q9.2 149 l2 q9.1)) else none))) else none) else none) else ((jM_givenOf L l1 l2 q3.2).bind (fun q11 => if q11.1 ≤ 0 then (if (0 ≤ l2 ∧ l2 < 6) ∧ ((0 : Int) = 0 ∨ (0 : Int) = 1) then (if 0 ≤ l2 ∧ l2 < 6 then (if (up q11.2 148 l2 0) 148 l2 = 0 then (if 0 ≤ l2 ∧ l2 < 6 then (jM_setOpen_2 L l1 (iw (l2 + 1)) (up (up q11.2 148 l2 0) 149 l2 (-201))) else none) else ((jM_givenOf L l1 l2 (up q11.2 148 l2 0)).bind (fun q17 => if 0 ≤ l2 ∧ l2 < 6 then (jM_setOpen_2 L l1 (iw (l2 + 1)) (up q17.2 149 l2 q17.1)) else none))) else none) else none) else (if (0 ≤ l2 ∧ l2 < 6) ∧ ((1 : Int) = 0 ∨ (1 : Int) = 1) then (if 0 ≤ l2 ∧ l2 < 6 then (if (up q11.2 148 l2 1) 148 l2 = 0 then (if 0 ≤ l2 ∧ l2 < 6 then (jM_setOpen_2 L l1 (iw (l2 + 1)) (up (up q11.2 148 l2 1) 149 l2 (-201))) else none) else ((jM_givenOf L l1 l2 (up q11.2 148 l2 1)).bind (fun q23 => if 0 ≤ l2 ∧ l2 < 6 then (jM_setOpen_2 L l1 (iw (l2 + 1)) (up q23.2 149 l2 q23.1)) else none))) else none) else none)))))) := by
  unfold jM_setOpen_2
  refine q_s (pc' := 3) (ls' := [vR 137, vI l1, vI l2]) (st' := [vI l2]) (g' := g) k180_2 rfl rfl ?_
  refine q_s (pc' := 4) (ls' := [vR 137, vI l1, vI l2]) (st' := [vR 137, vI l2]) (g' := g) k180_3 rfl rfl ?_
  refine q_s (pc' := 5) (ls' := [vR 137, vI l1, vI l2]) (st' := [vI l1, vR 137, vI l2]) (g' := g) k180_4 rfl rfl ?_
  refine q_callI (ls0 := [vR 137, vI l1]) (rest := [vI l2]) (pc' := 8) rfl k180_5 rfl (hy4 rfl rfl rfl rfl) rfl rfl hq_146 rfl (fun q1 => ?_)
  refine q_ic (P := q1.1 ≤ l2) (t := 73) (pc' := 11) k180_8 Iff.rfl rfl rfl (fun h2 => ?_) (fun h2 => ?_)
  · exact q_e k180_73 rfl rfl rfl
  · refine q_s (pc' := 12) (ls' := [vR 137, vI l1, vI l2]) (st' := [vR 137]) (g' := q1.2) k180_11 rfl rfl ?_
    refine q_getF (r := 148) (pc' := 15) k180_12 rfl rfl rfl rfl ?_
    refine q_s (pc' := 16) (ls' := [vR 137, vI l1, vI l2]) (st' := [vI l2, vR 148]) (g' := q1.2) k180_15 rfl rfl ?_
    refine q_s (pc' := 17) (ls' := [vR 137, vI l1, vI l2]) (st' := [vR 137, vI l2, vR 148]) (g' := q1.2) k180_16 rfl rfl ?_
    refine q_s (pc' := 18) (ls' := [vR 137, vI l1, vI l2]) (st' := [vI l1, vR 137, vI l2, vR 148]) (g' := q1.2) k180_17 rfl rfl ?_
    refine q_s (pc' := 19) (ls' := [vR 137, vI l1, vI l2]) (st' := [vI l2, vI l1, vR 137, vI l2, vR 148]) (g' := q1.2) k180_18 rfl rfl ?_
    refine q_callI (ls0 := [vR 137, vI l1, vI l2]) (rest := [vI l2, vR 148]) (pc' := 22) rfl k180_19 rfl (hy4 rfl rfl rfl rfl) rfl rfl hq_163 rfl (fun q3 => ?_)
    refine q_if (P := q3.1 = 0) (t := 38) (pc' := 25) k180_22 Iff.rfl rfl rfl (fun h4 => ?_) (fun h4 => ?_)
    · refine q_s (pc' := 39) (ls' := [vR 137, vI l1, vI l2]) (st' := [vI 0, vI l2, vR 148]) (g' := q3.2) k180_38 rfl rfl ?_
      refine q_bast (n := 6) (pc' := 40) rfl k180_39 rfl rfl (fun h5 => ?_)
      refine q_s (pc' := 41) (ls' := [vR 137, vI l1, vI l2]) (st' := [vR 137]) (g' := up q3.2 148 l2 0) k180_40 rfl rfl ?_
      refine q_getF (r := 149) (pc' := 44) k180_41 rfl rfl rfl rfl ?_
      refine q_s (pc' := 45) (ls' := [vR 137, vI l1, vI l2]) (st' := [vI l2, vR 149]) (g' := up q3.2 148 l2 0) k180_44 rfl rfl ?_
      refine q_s (pc' := 46) (ls' := [vR 137, vI l1, vI l2]) (st' := [vR 137, vI l2, vR 149]) (g' := up q3.2 148 l2 0) k180_45 rfl rfl ?_
      refine q_getF (r := 148) (pc' := 49) k180_46 rfl rfl rfl rfl ?_
      refine q_s (pc' := 50) (ls' := [vR 137, vI l1, vI l2]) (st' := [vI l2, vR 148, vI l2, vR 149]) (g' := up q3.2 148 l2 0) k180_49 rfl rfl ?_
      refine q_bald (n := 6) (pc' := 51) rfl k180_50 rfl rfl (fun h6 => ?_)
      refine q_if (P := (up q3.2 148 l2 0) 148 l2 = 0) (t := 63) (pc' := 54) k180_51 Iff.rfl rfl rfl (fun h7 => ?_) (fun h7 => ?_)
      · refine q_s (pc' := 66) (ls' := [vR 137, vI l1, vI l2]) (st' := [vI (-201), vI l2, vR 149]) (g' := up q3.2 148 l2 0) k180_63 rfl rfl ?_
        refine q_iast (n := 6) (pc' := 67) rfl k180_66 rfl (by decide) rfl (fun h8 => ?_)
        refine q_s (pc' := 70) (ls' := [vR 137, vI l1, vI (iw (l2 + 1))]) (st' := []) (g' := up (up q3.2 148 l2 0) 149 l2 (-201)) k180_67 rfl rfl ?_
        refine q_s (pc' := 2) (ls' := [vR 137, vI l1, vI (iw (l2 + 1))]) (st' := []) (g' := up (up q3.2 148 l2 0) 149 l2 (-201)) k180_70 rfl rfl ?_
        rfl
      · refine q_s (pc' := 55) (ls' := [vR 137, vI l1, vI l2]) (st' := [vR 137, vI l2, vR 149]) (g' := up q3.2 148 l2 0) k180_54 rfl rfl ?_
        refine q_s (pc' := 56) (ls' := [vR 137, vI l1, vI l2]) (st' := [vI l1, vR 137, vI l2, vR 149]) (g' := up q3.2 148 l2 0) k180_55 rfl rfl ?_
        refine q_s (pc' := 57) (ls' := [vR 137, vI l1, vI l2]) (st' := [vI l2, vI l1, vR 137, vI l2, vR 149]) (g' := up q3.2 148 l2 0) k180_56 rfl rfl ?_
        refine q_callI (ls0 := [vR 137, vI l1, vI l2]) (rest := [vI l2, vR 149]) (pc' := 60) rfl k180_57 rfl (hy4 rfl rfl rfl rfl) rfl rfl hq_147 rfl (fun q9 => ?_)
        refine q_s (pc' := 66) (ls' := [vR 137, vI l1, vI l2]) (st' := [vI q9.1, vI l2, vR 149]) (g' := q9.2) k180_60 rfl rfl ?_
        refine q_iast (n := 6) (pc' := 67) rfl k180_66 rfl (by decide) rfl (fun h10 => ?_)
        refine q_s (pc' := 70) (ls' := [vR 137, vI l1, vI (iw (l2 + 1))]) (st' := []) (g' := up q9.2 149 l2 q9.1) k180_67 rfl rfl ?_
        refine q_s (pc' := 2) (ls' := [vR 137, vI l1, vI (iw (l2 + 1))]) (st' := []) (g' := up q9.2 149 l2 q9.1) k180_70 rfl rfl ?_
        rfl
    · refine q_s (pc' := 26) (ls' := [vR 137, vI l1, vI l2]) (st' := [vR 137, vI l2, vR 148]) (g' := q3.2) k180_25 rfl rfl ?_
      refine q_s (pc' := 27) (ls' := [vR 137, vI l1, vI l2]) (st' := [vI l1, vR 137, vI l2, vR 148]) (g' := q3.2) k180_26 rfl rfl ?_
      refine q_s (pc' := 28) (ls' := [vR 137, vI l1, vI l2]) (st' := [vI l2, vI l1, vR 137, vI l2, vR 148]) (g' := q3.2) k180_27 rfl rfl ?_
      refine q_callI (ls0 := [vR 137, vI l1, vI l2]) (rest := [vI l2, vR 148]) (pc' := 31) rfl k180_28 rfl (hy4 rfl rfl rfl rfl) rfl rfl hq_147 rfl (fun q11 => ?_)
      refine q_if (P := q11.1 ≤ 0) (t := 38) (pc' := 34) k180_31 Iff.rfl rfl rfl (fun h12 => ?_) (fun h12 => ?_)
      · refine q_s (pc' := 39) (ls' := [vR 137, vI l1, vI l2]) (st' := [vI 0, vI l2, vR 148]) (g' := q11.2) k180_38 rfl rfl ?_
        refine q_bast (n := 6) (pc' := 40) rfl k180_39 rfl rfl (fun h13 => ?_)
        refine q_s (pc' := 41) (ls' := [vR 137, vI l1, vI l2]) (st' := [vR 137]) (g' := up q11.2 148 l2 0) k180_40 rfl rfl ?_
        refine q_getF (r := 149) (pc' := 44) k180_41 rfl rfl rfl rfl ?_
        refine q_s (pc' := 45) (ls' := [vR 137, vI l1, vI l2]) (st' := [vI l2, vR 149]) (g' := up q11.2 148 l2 0) k180_44 rfl rfl ?_
        refine q_s (pc' := 46) (ls' := [vR 137, vI l1, vI l2]) (st' := [vR 137, vI l2, vR 149]) (g' := up q11.2 148 l2 0) k180_45 rfl rfl ?_
        refine q_getF (r := 148) (pc' := 49) k180_46 rfl rfl rfl rfl ?_
        refine q_s (pc' := 50) (ls' := [vR 137, vI l1, vI l2]) (st' := [vI l2, vR 148, vI l2, vR 149]) (g' := up q11.2 148 l2 0) k180_49 rfl rfl ?_
        refine q_bald (n := 6) (pc' := 51) rfl k180_50 rfl rfl (fun h14 => ?_)
        refine q_if (P := (up q11.2 148 l2 0) 148 l2 = 0) (t := 63) (pc' := 54) k180_51 Iff.rfl rfl rfl (fun h15 => ?_) (fun h15 => ?_)
        · refine q_s (pc' := 66) (ls' := [vR 137, vI l1, vI l2]) (st' := [vI (-201), vI l2, vR 149]) (g' := up q11.2 148 l2 0) k180_63 rfl rfl ?_
          refine q_iast (n := 6) (pc' := 67) rfl k180_66 rfl (by decide) rfl (fun h16 => ?_)
          refine q_s (pc' := 70) (ls' := [vR 137, vI l1, vI (iw (l2 + 1))]) (st' := []) (g' := up (up q11.2 148 l2 0) 149 l2 (-201)) k180_67 rfl rfl ?_
          refine q_s (pc' := 2) (ls' := [vR 137, vI l1, vI (iw (l2 + 1))]) (st' := []) (g' := up (up q11.2 148 l2 0) 149 l2 (-201)) k180_70 rfl rfl ?_
          rfl
        · refine q_s (pc' := 55) (ls' := [vR 137, vI l1, vI l2]) (st' := [vR 137, vI l2, vR 149]) (g' := up q11.2 148 l2 0) k180_54 rfl rfl ?_
          refine q_s (pc' := 56) (ls' := [vR 137, vI l1, vI l2]) (st' := [vI l1, vR 137, vI l2, vR 149]) (g' := up q11.2 148 l2 0) k180_55 rfl rfl ?_
          refine q_s (pc' := 57) (ls' := [vR 137, vI l1, vI l2]) (st' := [vI l2, vI l1, vR 137, vI l2, vR 149]) (g' := up q11.2 148 l2 0) k180_56 rfl rfl ?_
          refine q_callI (ls0 := [vR 137, vI l1, vI l2]) (rest := [vI l2, vR 149]) (pc' := 60) rfl k180_57 rfl (hy4 rfl rfl rfl rfl) rfl rfl hq_147 rfl (fun q17 => ?_)
          refine q_s (pc' := 66) (ls' := [vR 137, vI l1, vI l2]) (st' := [vI q17.1, vI l2, vR 149]) (g' := q17.2) k180_60 rfl rfl ?_
          refine q_iast (n := 6) (pc' := 67) rfl k180_66 rfl (by decide) rfl (fun h18 => ?_)
          refine q_s (pc' := 70) (ls' := [vR 137, vI l1, vI (iw (l2 + 1))]) (st' := []) (g' := up q17.2 149 l2 q17.1) k180_67 rfl rfl ?_
          refine q_s (pc' := 2) (ls' := [vR 137, vI l1, vI (iw (l2 + 1))]) (st' := []) (g' := up q17.2 149 l2 q17.1) k180_70 rfl rfl ?_
          rfl
      · refine q_s (pc' := 35) (ls' := [vR 137, vI l1, vI l2]) (st' := [vI 1, vI l2, vR 148]) (g' := q11.2) k180_34 rfl rfl ?_
        refine q_s (pc' := 39) (ls' := [vR 137, vI l1, vI l2]) (st' := [vI 1, vI l2, vR 148]) (g' := q11.2) k180_35 rfl rfl ?_
        refine q_bast (n := 6) (pc' := 40) rfl k180_39 rfl rfl (fun h19 => ?_)
        refine q_s (pc' := 41) (ls' := [vR 137, vI l1, vI l2]) (st' := [vR 137]) (g' := up q11.2 148 l2 1) k180_40 rfl rfl ?_
        refine q_getF (r := 149) (pc' := 44) k180_41 rfl rfl rfl rfl ?_
        refine q_s (pc' := 45) (ls' := [vR 137, vI l1, vI l2]) (st' := [vI l2, vR 149]) (g' := up q11.2 148 l2 1) k180_44 rfl rfl ?_
        refine q_s (pc' := 46) (ls' := [vR 137, vI l1, vI l2]) (st' := [vR 137, vI l2, vR 149]) (g' := up q11.2 148 l2 1) k180_45 rfl rfl ?_
        refine q_getF (r := 148) (pc' := 49) k180_46 rfl rfl rfl rfl ?_
        refine q_s (pc' := 50) (ls' := [vR 137, vI l1, vI l2]) (st' := [vI l2, vR 148, vI l2, vR 149]) (g' := up q11.2 148 l2 1) k180_49 rfl rfl ?_
        refine q_bald (n := 6) (pc' := 51) rfl k180_50 rfl rfl (fun h20 => ?_)
        refine q_if (P := (up q11.2 148 l2 1) 148 l2 = 0) (t := 63) (pc' := 54) k180_51 Iff.rfl rfl rfl (fun h21 => ?_) (fun h21 => ?_)
        · refine q_s (pc' := 66) (ls' := [vR 137, vI l1, vI l2]) (st' := [vI (-201), vI l2, vR 149]) (g' := up q11.2 148 l2 1) k180_63 rfl rfl ?_
          refine q_iast (n := 6) (pc' := 67) rfl k180_66 rfl (by decide) rfl (fun h22 => ?_)
          refine q_s (pc' := 70) (ls' := [vR 137, vI l1, vI (iw (l2 + 1))]) (st' := []) (g' := up (up q11.2 148 l2 1) 149 l2 (-201)) k180_67 rfl rfl ?_
          refine q_s (pc' := 2) (ls' := [vR 137, vI l1, vI (iw (l2 + 1))]) (st' := []) (g' := up (up q11.2 148 l2 1) 149 l2 (-201)) k180_70 rfl rfl ?_
          rfl
        · refine q_s (pc' := 55) (ls' := [vR 137, vI l1, vI l2]) (st' := [vR 137, vI l2, vR 149]) (g' := up q11.2 148 l2 1) k180_54 rfl rfl ?_
          refine q_s (pc' := 56) (ls' := [vR 137, vI l1, vI l2]) (st' := [vI l1, vR 137, vI l2, vR 149]) (g' := up q11.2 148 l2 1) k180_55 rfl rfl ?_
          refine q_s (pc' := 57) (ls' := [vR 137, vI l1, vI l2]) (st' := [vI l2, vI l1, vR 137, vI l2, vR 149]) (g' := up q11.2 148 l2 1) k180_56 rfl rfl ?_
          refine q_callI (ls0 := [vR 137, vI l1, vI l2]) (rest := [vI l2, vR 149]) (pc' := 60) rfl k180_57 rfl (hy4 rfl rfl rfl rfl) rfl rfl hq_147 rfl (fun q23 => ?_)
          refine q_s (pc' := 66) (ls' := [vR 137, vI l1, vI l2]) (st' := [vI q23.1, vI l2, vR 149]) (g' := q23.2) k180_60 rfl rfl ?_
          refine q_iast (n := 6) (pc' := 67) rfl k180_66 rfl (by decide) rfl (fun h24 => ?_)
          refine q_s (pc' := 70) (ls' := [vR 137, vI l1, vI (iw (l2 + 1))]) (st' := []) (g' := up q23.2 149 l2 q23.1) k180_67 rfl rfl ?_
          refine q_s (pc' := 2) (ls' := [vR 137, vI l1, vI (iw (l2 + 1))]) (st' := []) (g' := up q23.2 149 l2 q23.1) k180_70 rfl rfl ?_
          rfl
set_option maxHeartbeats 4000000 in
theorem jM_setSteps_eq (L : Nat) (a1 : Int) (a2 : Int) (g : AMem) : jM_setSteps L a1 a2 g = (jM_manyOf L a1 g).bind (fun q1 => (jM_setOpen L a1 (up q1.2 137 10 0)).bind (fun q2 => jM_setSteps_16 L a1 a2 q1.1 vU q2)) := by
  unfold jM_setSteps
  refine q_s (pc' := 1) (ls' := [vR 137, vI a1, vI a2, vU, vU, vU]) (st' := [vR 137]) (g' := g) k181_0 rfl rfl ?_
  refine q_s (pc' := 2) (ls' := [vR 137, vI a1, vI a2, vU, vU, vU]) (st' := [vI a1, vR 137]) (g' := g) k181_1 rfl rfl ?_
  refine q_callI (ls0 := [vR 137, vI a1]) (rest := []) (pc' := 5) rfl k181_2 rfl (hy4 rfl rfl rfl rfl) rfl rfl hq_146 rfl (fun q1 => ?_)
  refine q_s (pc' := 6) (ls' := [vR 137, vI a1, vI a2, vI q1.1, vU, vU]) (st' := []) (g' := q1.2) k181_5 rfl rfl ?_
  refine q_s (pc' := 7) (ls' := [vR 137, vI a1, vI a2, vI q1.1, vU, vU]) (st' := [vR 137]) (g' := q1.2) k181_6 rfl rfl ?_
  refine q_s (pc' := 8) (ls' := [vR 137, vI a1, vI a2, vI q1.1, vU, vU]) (st' := [vI 0, vR 137]) (g' := q1.2) k181_7 rfl rfl ?_
  refine q_putI (w := 10) (pc' := 11) k181_8 rfl rfl rfl rfl ?_
  refine q_s (pc' := 12) (ls' := [vR 137, vI a1, vI a2, vI q1.1, vU, vU]) (st' := [vR 137]) (g' := up q1.2 137 10 0) k181_11 rfl rfl ?_
  refine q_s (pc' := 13) (ls' := [vR 137, vI a1, vI a2, vI q1.1, vU, vU]) (st' := [vI a1, vR 137]) (g' := up q1.2 137 10 0) k181_12 rfl rfl ?_
  refine q_callV (ls0 := [vR 137, vI a1, vU]) (rest := []) (pc' := 16) rfl k181_13 rfl (hy4 rfl rfl rfl rfl) rfl rfl hq_180 rfl (fun q2 => ?_)
  rfl
set_option maxHeartbeats 4000000 in
theorem jM_setSteps_16_eq (L : Nat) (l1 : Int) (l2 : Int) (l3 : Int) (w4 : AVal) (g : AMem) : jM_setSteps_16 L l1 l2 l3 w4 g = (jM_openMany L l3 g).bind (fun q3 => if q3.1 ≤ 0 then (jM_setSteps_68 L l1 l2 l3 0 vU q3.2) else ((jM_leastOpen L l1 1 q3.2).bind (fun q5 => if q5.1 ≠ (-201) then ((jM_movesTo L l1 q5.1 q5.2).bind (fun q7 => jM_setSteps_16 L l1 l2 l3 (vI q5.1) q7)) else ((jM_leastOpen L l1 0 q5.2).bind (fun q8 => (jM_breaks L l1 q8.1 l2 q8.2).bind (fun q9 => jM_setSteps_16 L l1 l2 l3 (vI q5.1) q9)))))) := by
  unfold jM_setSteps_16
  refine q_s (pc' := 17) (ls' := [vR 137, vI l1, vI l2, vI l3, w4, vU]) (st' := [vR 137]) (g' := g) k181_16 rfl rfl ?_
  refine q_s (pc' := 18) (ls' := [vR 137, vI l1, vI l2, vI l3, w4, vU]) (st' := [vI l3, vR 137]) (g' := g) k181_17 rfl rfl ?_
  refine q_callI (ls0 := [vR 137, vI l3, vU, vU]) (rest := []) (pc' := 21) rfl k181_18 rfl (hy4 rfl rfl rfl rfl) rfl rfl hq_174 rfl (fun q3 => ?_)
  refine q_if (P := q3.1 ≤ 0) (t := 65) (pc' := 24) k181_21 Iff.rfl rfl rfl (fun h4 => ?_) (fun h4 => ?_)
  · refine q_s (pc' := 66) (ls' := [vR 137, vI l1, vI l2, vI l3, w4, vU]) (st' := [vI 0]) (g' := q3.2) k181_65 rfl rfl ?_
    refine q_s (pc' := 68) (ls' := [vR 137, vI l1, vI l2, vI l3, vI 0, vU]) (st' := []) (g' := q3.2) k181_66 rfl rfl ?_
    rfl
  · refine q_s (pc' := 25) (ls' := [vR 137, vI l1, vI l2, vI l3, w4, vU]) (st' := [vR 137]) (g' := q3.2) k181_24 rfl rfl ?_
    refine q_s (pc' := 26) (ls' := [vR 137, vI l1, vI l2, vI l3, w4, vU]) (st' := [vI l1, vR 137]) (g' := q3.2) k181_25 rfl rfl ?_
    refine q_s (pc' := 27) (ls' := [vR 137, vI l1, vI l2, vI l3, w4, vU]) (st' := [vI 1, vI l1, vR 137]) (g' := q3.2) k181_26 rfl rfl ?_
    refine q_callI (ls0 := [vR 137, vI l1, vI 1, vU, vU, vU, vU]) (rest := []) (pc' := 30) rfl k181_27 rfl (hy4 rfl rfl rfl rfl) rfl rfl hq_175 rfl (fun q5 => ?_)
    refine q_s (pc' := 32) (ls' := [vR 137, vI l1, vI l2, vI l3, vI q5.1, vU]) (st' := []) (g' := q5.2) k181_30 rfl rfl ?_
    refine q_s (pc' := 34) (ls' := [vR 137, vI l1, vI l2, vI l3, vI q5.1, vU]) (st' := [vI q5.1]) (g' := q5.2) k181_32 rfl rfl ?_
    refine q_s (pc' := 37) (ls' := [vR 137, vI l1, vI l2, vI l3, vI q5.1, vU]) (st' := [vI (-201), vI q5.1]) (g' := q5.2) k181_34 rfl rfl ?_
    refine q_ic (P := q5.1 ≠ (-201)) (t := 55) (pc' := 40) k181_37 Iff.rfl rfl rfl (fun h6 => ?_) (fun h6 => ?_)
    · refine q_s (pc' := 56) (ls' := [vR 137, vI l1, vI l2, vI l3, vI q5.1, vU]) (st' := [vR 137]) (g' := q5.2) k181_55 rfl rfl ?_
      refine q_s (pc' := 57) (ls' := [vR 137, vI l1, vI l2, vI l3, vI q5.1, vU]) (st' := [vI l1, vR 137]) (g' := q5.2) k181_56 rfl rfl ?_
      refine q_s (pc' := 59) (ls' := [vR 137, vI l1, vI l2, vI l3, vI q5.1, vU]) (st' := [vI q5.1, vI l1, vR 137]) (g' := q5.2) k181_57 rfl rfl ?_
      refine q_callV (ls0 := [vR 137, vI l1, vI q5.1, vU, vU]) (rest := []) (pc' := 62) rfl k181_59 rfl (hy4 rfl rfl rfl rfl) rfl rfl hq_178 rfl (fun q7 => ?_)
      refine q_s (pc' := 16) (ls' := [vR 137, vI l1, vI l2, vI l3, vI q5.1, vU]) (st' := []) (g' := q7) k181_62 rfl rfl ?_
      rfl
    · refine q_s (pc' := 41) (ls' := [vR 137, vI l1, vI l2, vI l3, vI q5.1, vU]) (st' := [vR 137]) (g' := q5.2) k181_40 rfl rfl ?_
      refine q_s (pc' := 42) (ls' := [vR 137, vI l1, vI l2, vI l3, vI q5.1, vU]) (st' := [vI l1, vR 137]) (g' := q5.2) k181_41 rfl rfl ?_
      refine q_s (pc' := 43) (ls' := [vR 137, vI l1, vI l2, vI l3, vI q5.1, vU]) (st' := [vR 137, vI l1, vR 137]) (g' := q5.2) k181_42 rfl rfl ?_
      refine q_s (pc' := 44) (ls' := [vR 137, vI l1, vI l2, vI l3, vI q5.1, vU]) (st' := [vI l1, vR 137, vI l1, vR 137]) (g' := q5.2) k181_43 rfl rfl ?_
      refine q_s (pc' := 45) (ls' := [vR 137, vI l1, vI l2, vI l3, vI q5.1, vU]) (st' := [vI 0, vI l1, vR 137, vI l1, vR 137]) (g' := q5.2) k181_44 rfl rfl ?_
      refine q_callI (ls0 := [vR 137, vI l1, vI 0, vU, vU, vU, vU]) (rest := [vI l1, vR 137]) (pc' := 48) rfl k181_45 rfl (hy4 rfl rfl rfl rfl) rfl rfl hq_175 rfl (fun q8 => ?_)
      refine q_s (pc' := 49) (ls' := [vR 137, vI l1, vI l2, vI l3, vI q5.1, vU]) (st' := [vI l2, vI q8.1, vI l1, vR 137]) (g' := q8.2) k181_48 rfl rfl ?_
      refine q_callV (ls0 := [vR 137, vI l1, vI q8.1, vI l2, vU, vU, vU, vU, vU, vU]) (rest := []) (pc' := 52) rfl k181_49 rfl (hy4 rfl rfl rfl rfl) rfl rfl hq_179 rfl (fun q9 => ?_)
      refine q_s (pc' := 62) (ls' := [vR 137, vI l1, vI l2, vI l3, vI q5.1, vU]) (st' := []) (g' := q9) k181_52 rfl rfl ?_
      refine q_s (pc' := 16) (ls' := [vR 137, vI l1, vI l2, vI l3, vI q5.1, vU]) (st' := []) (g' := q9) k181_62 rfl rfl ?_
      rfl
set_option maxHeartbeats 4000000 in
theorem jM_setSteps_68_eq (L : Nat) (l1 : Int) (l2 : Int) (l3 : Int) (l4 : Int) (w5 : AVal) (g : AMem) : jM_setSteps_68 L l1 l2 l3 l4 w5 g = if 32 ≤ l4 then (some g) else (jM_setSteps_78 L l1 l2 l3 l4 0 g) := by
  unfold jM_setSteps_68
  refine q_s (pc' := 70) (ls' := [vR 137, vI l1, vI l2, vI l3, vI l4, w5]) (st' := [vI l4]) (g' := g) k181_68 rfl rfl ?_
  refine q_s (pc' := 72) (ls' := [vR 137, vI l1, vI l2, vI l3, vI l4, w5]) (st' := [vI 32, vI l4]) (g' := g) k181_70 rfl rfl ?_
  refine q_ic (P := 32 ≤ l4) (t := 140) (pc' := 75) k181_72 Iff.rfl rfl rfl (fun h10 => ?_) (fun h10 => ?_)
  · exact q_e k181_140 rfl rfl rfl
  · refine q_s (pc' := 76) (ls' := [vR 137, vI l1, vI l2, vI l3, vI l4, w5]) (st' := [vI 0]) (g' := g) k181_75 rfl rfl ?_
    refine q_s (pc' := 78) (ls' := [vR 137, vI l1, vI l2, vI l3, vI l4, vI 0]) (st' := []) (g' := g) k181_76 rfl rfl ?_
    rfl
set_option maxHeartbeats 4000000 in
theorem jM_setSteps_78_eq (L : Nat) (l1 : Int) (l2 : Int) (l3 : Int) (l4 : Int) (l5 : Int) (g : AMem) : jM_setSteps_78 L l1 l2 l3 l4 l5 g = if l3 ≤ l5 then (jM_setSteps_68 L l1 l2 l3 (iw (l4 + 1)) (vI l5) g) else ((jM_givenOf L l1 l5 g).bind (fun q12 => if 0 ≤ q12.1 then (jM_setSteps_78 L l1 l2 l3 l4 (iw (l5 + 1)) q12.2) else ((jM_parameterOf L l1 l5 q12.2).bind (fun q14 => (jM_byteOf L q14.1 q14.2).bind (fun q15 => if q15.1 ≠ l4 then (jM_setSteps_78 L l1 l2 l3 l4 (iw (l5 + 1)) q15.2) else ((jM_parameterOf L l1 l5 q15.2).bind (fun q17 => (jM_givenOf L l1 l5 q17.2).bind (fun q18 => (jM_comes L 2 q17.1 q18.1 q18.2).bind (fun q19 => jM_setSteps_78 L l1 l2 l3 l4 (iw (l5 + 1)) q19))))))))) := by
  unfold jM_setSteps_78
  refine q_s (pc' := 80) (ls' := [vR 137, vI l1, vI l2, vI l3, vI l4, vI l5]) (st' := [vI l5]) (g' := g) k181_78 rfl rfl ?_
  refine q_s (pc' := 81) (ls' := [vR 137, vI l1, vI l2, vI l3, vI l4, vI l5]) (st' := [vI l3, vI l5]) (g' := g) k181_80 rfl rfl ?_
  refine q_ic (P := l3 ≤ l5) (t := 134) (pc' := 84) k181_81 Iff.rfl rfl rfl (fun h11 => ?_) (fun h11 => ?_)
  · refine q_s (pc' := 137) (ls' := [vR 137, vI l1, vI l2, vI l3, vI (iw (l4 + 1)), vI l5]) (st' := []) (g' := g) k181_134 rfl rfl ?_
    refine q_s (pc' := 68) (ls' := [vR 137, vI l1, vI l2, vI l3, vI (iw (l4 + 1)), vI l5]) (st' := []) (g' := g) k181_137 rfl rfl ?_
    rfl
  · refine q_s (pc' := 85) (ls' := [vR 137, vI l1, vI l2, vI l3, vI l4, vI l5]) (st' := [vR 137]) (g' := g) k181_84 rfl rfl ?_
    refine q_s (pc' := 86) (ls' := [vR 137, vI l1, vI l2, vI l3, vI l4, vI l5]) (st' := [vI l1, vR 137]) (g' := g) k181_85 rfl rfl ?_
    refine q_s (pc' := 88) (ls' := [vR 137, vI l1, vI l2, vI l3, vI l4, vI l5]) (st' := [vI l5, vI l1, vR 137]) (g' := g) k181_86 rfl rfl ?_
    refine q_callI (ls0 := [vR 137, vI l1, vI l5]) (rest := []) (pc' := 91) rfl k181_88 rfl (hy4 rfl rfl rfl rfl) rfl rfl hq_147 rfl (fun q12 => ?_)
    refine q_if (P := 0 ≤ q12.1) (t := 128) (pc' := 94) k181_91 Iff.rfl rfl rfl (fun h13 => ?_) (fun h13 => ?_)
    · refine q_s (pc' := 131) (ls' := [vR 137, vI l1, vI l2, vI l3, vI l4, vI (iw (l5 + 1))]) (st' := []) (g' := q12.2) k181_128 rfl rfl ?_
      refine q_s (pc' := 78) (ls' := [vR 137, vI l1, vI l2, vI l3, vI l4, vI (iw (l5 + 1))]) (st' := []) (g' := q12.2) k181_131 rfl rfl ?_
      rfl
    · refine q_s (pc' := 95) (ls' := [vR 137, vI l1, vI l2, vI l3, vI l4, vI l5]) (st' := [vR 137]) (g' := q12.2) k181_94 rfl rfl ?_
      refine q_s (pc' := 96) (ls' := [vR 137, vI l1, vI l2, vI l3, vI l4, vI l5]) (st' := [vI l1, vR 137]) (g' := q12.2) k181_95 rfl rfl ?_
      refine q_s (pc' := 98) (ls' := [vR 137, vI l1, vI l2, vI l3, vI l4, vI l5]) (st' := [vI l5, vI l1, vR 137]) (g' := q12.2) k181_96 rfl rfl ?_
      refine q_callI (ls0 := [vR 137, vI l1, vI l5]) (rest := []) (pc' := 101) rfl k181_98 rfl (hy4 rfl rfl rfl rfl) rfl rfl hq_145 rfl (fun q14 => ?_)
      refine q_callI (ls0 := [vI q14.1]) (rest := []) (pc' := 104) rfl k181_101 rfl (hy4 rfl rfl rfl rfl) rfl rfl hq_138 rfl (fun q15 => ?_)
      refine q_s (pc' := 106) (ls' := [vR 137, vI l1, vI l2, vI l3, vI l4, vI l5]) (st' := [vI l4, vI q15.1]) (g' := q15.2) k181_104 rfl rfl ?_
      refine q_ic (P := q15.1 ≠ l4) (t := 128) (pc' := 109) k181_106 Iff.rfl rfl rfl (fun h16 => ?_) (fun h16 => ?_)
      · refine q_s (pc' := 131) (ls' := [vR 137, vI l1, vI l2, vI l3, vI l4, vI (iw (l5 + 1))]) (st' := []) (g' := q15.2) k181_128 rfl rfl ?_
        refine q_s (pc' := 78) (ls' := [vR 137, vI l1, vI l2, vI l3, vI l4, vI (iw (l5 + 1))]) (st' := []) (g' := q15.2) k181_131 rfl rfl ?_
        rfl
      · refine q_s (pc' := 110) (ls' := [vR 137, vI l1, vI l2, vI l3, vI l4, vI l5]) (st' := [vR 137]) (g' := q15.2) k181_109 rfl rfl ?_
        refine q_s (pc' := 111) (ls' := [vR 137, vI l1, vI l2, vI l3, vI l4, vI l5]) (st' := [vI 2, vR 137]) (g' := q15.2) k181_110 rfl rfl ?_
        refine q_s (pc' := 112) (ls' := [vR 137, vI l1, vI l2, vI l3, vI l4, vI l5]) (st' := [vR 137, vI 2, vR 137]) (g' := q15.2) k181_111 rfl rfl ?_
        refine q_s (pc' := 113) (ls' := [vR 137, vI l1, vI l2, vI l3, vI l4, vI l5]) (st' := [vI l1, vR 137, vI 2, vR 137]) (g' := q15.2) k181_112 rfl rfl ?_
        refine q_s (pc' := 115) (ls' := [vR 137, vI l1, vI l2, vI l3, vI l4, vI l5]) (st' := [vI l5, vI l1, vR 137, vI 2, vR 137]) (g' := q15.2) k181_113 rfl rfl ?_
        refine q_callI (ls0 := [vR 137, vI l1, vI l5]) (rest := [vI 2, vR 137]) (pc' := 118) rfl k181_115 rfl (hy4 rfl rfl rfl rfl) rfl rfl hq_145 rfl (fun q17 => ?_)
        refine q_s (pc' := 119) (ls' := [vR 137, vI l1, vI l2, vI l3, vI l4, vI l5]) (st' := [vR 137, vI q17.1, vI 2, vR 137]) (g' := q17.2) k181_118 rfl rfl ?_
        refine q_s (pc' := 120) (ls' := [vR 137, vI l1, vI l2, vI l3, vI l4, vI l5]) (st' := [vI l1, vR 137, vI q17.1, vI 2, vR 137]) (g' := q17.2) k181_119 rfl rfl ?_
        refine q_s (pc' := 122) (ls' := [vR 137, vI l1, vI l2, vI l3, vI l4, vI l5]) (st' := [vI l5, vI l1, vR 137, vI q17.1, vI 2, vR 137]) (g' := q17.2) k181_120 rfl rfl ?_
        refine q_callI (ls0 := [vR 137, vI l1, vI l5]) (rest := [vI q17.1, vI 2, vR 137]) (pc' := 125) rfl k181_122 rfl (hy4 rfl rfl rfl rfl) rfl rfl hq_147 rfl (fun q18 => ?_)
        refine q_callV (ls0 := [vR 137, vI 2, vI q17.1, vI q18.1]) (rest := []) (pc' := 128) rfl k181_125 rfl (hy4 rfl rfl rfl rfl) rfl rfl hq_172 rfl (fun q19 => ?_)
        refine q_s (pc' := 131) (ls' := [vR 137, vI l1, vI l2, vI l3, vI l4, vI (iw (l5 + 1))]) (st' := []) (g' := q19) k181_128 rfl rfl ?_
        refine q_s (pc' := 78) (ls' := [vR 137, vI l1, vI l2, vI l3, vI l4, vI (iw (l5 + 1))]) (st' := []) (g' := q19) k181_131 rfl rfl ?_
        rfl
set_option maxHeartbeats 4000000 in
theorem jM_costBy_eq (L : Nat) (a1 : Int) (a2 : Int) (g : AMem) : jM_costBy L a1 a2 g = (jM_setSteps L a1 a2 g).bind (fun q1 => jM_costBy_11 L a1 a2 0 0 vU q1) := by
  unfold jM_costBy
  refine q_s (pc' := 1) (ls' := [vR 137, vI a1, vI a2, vU, vU, vU]) (st' := [vR 137]) (g' := g) k182_0 rfl rfl ?_
  refine q_s (pc' := 2) (ls' := [vR 137, vI a1, vI a2, vU, vU, vU]) (st' := [vI a1, vR 137]) (g' := g) k182_1 rfl rfl ?_
  refine q_s (pc' := 3) (ls' := [vR 137, vI a1, vI a2, vU, vU, vU]) (st' := [vI a2, vI a1, vR 137]) (g' := g) k182_2 rfl rfl ?_
  refine q_callV (ls0 := [vR 137, vI a1, vI a2, vU, vU, vU]) (rest := []) (pc' := 6) rfl k182_3 rfl (hy4 rfl rfl rfl rfl) rfl rfl hq_181 rfl (fun q1 => ?_)
  refine q_s (pc' := 7) (ls' := [vR 137, vI a1, vI a2, vU, vU, vU]) (st' := [vI 0]) (g' := q1) k182_6 rfl rfl ?_
  refine q_s (pc' := 8) (ls' := [vR 137, vI a1, vI a2, vI 0, vU, vU]) (st' := []) (g' := q1) k182_7 rfl rfl ?_
  refine q_s (pc' := 9) (ls' := [vR 137, vI a1, vI a2, vI 0, vU, vU]) (st' := [vI 0]) (g' := q1) k182_8 rfl rfl ?_
  refine q_s (pc' := 11) (ls' := [vR 137, vI a1, vI a2, vI 0, vI 0, vU]) (st' := []) (g' := q1) k182_9 rfl rfl ?_
  rfl
set_option maxHeartbeats 4000000 in
theorem jM_costBy_11_eq (L : Nat) (l1 : Int) (l2 : Int) (l3 : Int) (l4 : Int) (w5 : AVal) (g : AMem) : jM_costBy_11 L l1 l2 l3 l4 w5 g = if g 137 10 ≤ l4 then (some (l3, g)) else (if 0 ≤ l4 ∧ l4 < 24 then ((jM_widthOf L (g 146 l4) g).bind (fun q4 => if 0 ≤ l4 ∧ l4 < 24 then (if q4.2 145 l4 ≠ 1 then ((jM_moveCost L l2 q4.1 q4.2).bind (fun q7 => jM_costBy_11 L l1 l2 (iw (l3 + q7.1)) (iw (l4 + 1)) (vI q4.1) q7.2)) else ((jM_changeCost L l2 q4.1 q4.2).bind (fun q8 => jM_costBy_11 L l1 l2 (iw (l3 + q8.1)) (iw (l4 + 1)) (vI q4.1) q8.2))) else none)) else none) := by
  unfold jM_costBy_11
  refine q_s (pc' := 13) (ls' := [vR 137, vI l1, vI l2, vI l3, vI l4, w5]) (st' := [vI l4]) (g' := g) k182_11 rfl rfl ?_
  refine q_s (pc' := 14) (ls' := [vR 137, vI l1, vI l2, vI l3, vI l4, w5]) (st' := [vR 137, vI l4]) (g' := g) k182_13 rfl rfl ?_
  refine q_getI (w := 10) (pc' := 17) k182_14 rfl rfl rfl rfl ?_
  refine q_ic (P := g 137 10 ≤ l4) (t := 67) (pc' := 20) k182_17 Iff.rfl rfl rfl (fun h2 => ?_) (fun h2 => ?_)
  · refine q_s (pc' := 68) (ls' := [vR 137, vI l1, vI l2, vI l3, vI l4, w5]) (st' := [vI l3]) (g' := g) k182_67 rfl rfl ?_
    exact q_e k182_68 rfl rfl rfl
  · refine q_s (pc' := 21) (ls' := [vR 137, vI l1, vI l2, vI l3, vI l4, w5]) (st' := [vR 137]) (g' := g) k182_20 rfl rfl ?_
    refine q_getF (r := 146) (pc' := 24) k182_21 rfl rfl rfl rfl ?_
    refine q_s (pc' := 26) (ls' := [vR 137, vI l1, vI l2, vI l3, vI l4, w5]) (st' := [vI l4, vR 146]) (g' := g) k182_24 rfl rfl ?_
    refine q_iald (n := 24) (pc' := 27) rfl k182_26 rfl rfl (fun h3 => ?_)
    refine q_callI (ls0 := [vI (g 146 l4)]) (rest := []) (pc' := 30) rfl k182_27 rfl (hy4 rfl rfl rfl rfl) rfl rfl hq_137 rfl (fun q4 => ?_)
    refine q_s (pc' := 32) (ls' := [vR 137, vI l1, vI l2, vI l3, vI l4, vI q4.1]) (st' := []) (g' := q4.2) k182_30 rfl rfl ?_
    refine q_s (pc' := 33) (ls' := [vR 137, vI l1, vI l2, vI l3, vI l4, vI q4.1]) (st' := [vI l3]) (g' := q4.2) k182_32 rfl rfl ?_
    refine q_s (pc' := 34) (ls' := [vR 137, vI l1, vI l2, vI l3, vI l4, vI q4.1]) (st' := [vR 137, vI l3]) (g' := q4.2) k182_33 rfl rfl ?_
    refine q_getF (r := 145) (pc' := 37) k182_34 rfl rfl rfl rfl ?_
    refine q_s (pc' := 39) (ls' := [vR 137, vI l1, vI l2, vI l3, vI l4, vI q4.1]) (st' := [vI l4, vR 145, vI l3]) (g' := q4.2) k182_37 rfl rfl ?_
    refine q_iald (n := 24) (pc' := 40) rfl k182_39 rfl rfl (fun h5 => ?_)
    refine q_s (pc' := 41) (ls' := [vR 137, vI l1, vI l2, vI l3, vI l4, vI q4.1]) (st' := [vI 1, vI (q4.2 145 l4), vI l3]) (g' := q4.2) k182_40 rfl rfl ?_
    refine q_ic (P := q4.2 145 l4 ≠ 1) (t := 53) (pc' := 44) k182_41 Iff.rfl rfl rfl (fun h6 => ?_) (fun h6 => ?_)
    · refine q_s (pc' := 54) (ls' := [vR 137, vI l1, vI l2, vI l3, vI l4, vI q4.1]) (st' := [vI l2, vI l3]) (g' := q4.2) k182_53 rfl rfl ?_
      refine q_s (pc' := 56) (ls' := [vR 137, vI l1, vI l2, vI l3, vI l4, vI q4.1]) (st' := [vI q4.1, vI l2, vI l3]) (g' := q4.2) k182_54 rfl rfl ?_
      refine q_callI (ls0 := [vI l2, vI q4.1]) (rest := [vI l3]) (pc' := 59) rfl k182_56 rfl (hy4 rfl rfl rfl rfl) rfl rfl hq_170 rfl (fun q7 => ?_)
      refine q_s (pc' := 60) (ls' := [vR 137, vI l1, vI l2, vI l3, vI l4, vI q4.1]) (st' := [vI (iw (l3 + q7.1))]) (g' := q7.2) k182_59 rfl rfl ?_
      refine q_s (pc' := 61) (ls' := [vR 137, vI l1, vI l2, vI (iw (l3 + q7.1)), vI l4, vI q4.1]) (st' := []) (g' := q7.2) k182_60 rfl rfl ?_
      refine q_s (pc' := 64) (ls' := [vR 137, vI l1, vI l2, vI (iw (l3 + q7.1)), vI (iw (l4 + 1)), vI q4.1]) (st' := []) (g' := q7.2) k182_61 rfl rfl ?_
      refine q_s (pc' := 11) (ls' := [vR 137, vI l1, vI l2, vI (iw (l3 + q7.1)), vI (iw (l4 + 1)), vI q4.1]) (st' := []) (g' := q7.2) k182_64 rfl rfl ?_
      rfl
    · refine q_s (pc' := 45) (ls' := [vR 137, vI l1, vI l2, vI l3, vI l4, vI q4.1]) (st' := [vI l2, vI l3]) (g' := q4.2) k182_44 rfl rfl ?_
      refine q_s (pc' := 47) (ls' := [vR 137, vI l1, vI l2, vI l3, vI l4, vI q4.1]) (st' := [vI q4.1, vI l2, vI l3]) (g' := q4.2) k182_45 rfl rfl ?_
      refine q_callI (ls0 := [vI l2, vI q4.1]) (rest := [vI l3]) (pc' := 50) rfl k182_47 rfl (hy4 rfl rfl rfl rfl) rfl rfl hq_171 rfl (fun q8 => ?_)
      refine q_s (pc' := 59) (ls' := [vR 137, vI l1, vI l2, vI l3, vI l4, vI q4.1]) (st' := [vI q8.1, vI l3]) (g' := q8.2) k182_50 rfl rfl ?_
      refine q_s (pc' := 60) (ls' := [vR 137, vI l1, vI l2, vI l3, vI l4, vI q4.1]) (st' := [vI (iw (l3 + q8.1))]) (g' := q8.2) k182_59 rfl rfl ?_
      refine q_s (pc' := 61) (ls' := [vR 137, vI l1, vI l2, vI (iw (l3 + q8.1)), vI l4, vI q4.1]) (st' := []) (g' := q8.2) k182_60 rfl rfl ?_
      refine q_s (pc' := 64) (ls' := [vR 137, vI l1, vI l2, vI (iw (l3 + q8.1)), vI (iw (l4 + 1)), vI q4.1]) (st' := []) (g' := q8.2) k182_61 rfl rfl ?_
      refine q_s (pc' := 11) (ls' := [vR 137, vI l1, vI l2, vI (iw (l3 + q8.1)), vI (iw (l4 + 1)), vI q4.1]) (st' := []) (g' := q8.2) k182_64 rfl rfl ?_
      rfl
set_option maxHeartbeats 4000000 in
theorem jM_counted_eq (L : Nat) (a1 : Int) (g : AMem) : jM_counted L a1 g = jM_counted_4 L a1 0 0 vU g := by
  unfold jM_counted
  refine q_s (pc' := 1) (ls' := [vR 137, vI a1, vU, vU, vU]) (st' := [vI 0]) (g' := g) k183_0 rfl rfl ?_
  refine q_s (pc' := 2) (ls' := [vR 137, vI a1, vI 0, vU, vU]) (st' := []) (g' := g) k183_1 rfl rfl ?_
  refine q_s (pc' := 3) (ls' := [vR 137, vI a1, vI 0, vU, vU]) (st' := [vI 0]) (g' := g) k183_2 rfl rfl ?_
  refine q_s (pc' := 4) (ls' := [vR 137, vI a1, vI 0, vI 0, vU]) (st' := []) (g' := g) k183_3 rfl rfl ?_
  rfl
set_option maxHeartbeats 4000000 in
theorem jM_counted_4_eq (L : Nat) (l1 : Int) (l2 : Int) (l3 : Int) (w4 : AVal) (g : AMem) : jM_counted_4 L l1 l2 l3 w4 g = if g 137 10 ≤ l3 then (some (l2, g)) else (if l1 = 0 then (jM_counted_4 L l1 (iw (l2 + 1)) (iw (l3 + 1)) (vI 1) g) else (if l1 ≠ 4 then (if 4 ≤ l1 then (jM_counted_4 L l1 (iw (l2 + 0)) (iw (l3 + 1)) (vI 0) g) else (if 0 ≤ l3 ∧ l3 < 24 then (if iw (l1 - 1) ≠ g 145 l3 then (jM_counted_4 L l1 (iw (l2 + 0)) (iw (l3 + 1)) (vI 0) g) else (jM_counted_4 L l1 (iw (l2 + 1)) (iw (l3 + 1)) (vI 1) g)) else none)) else (if 0 ≤ l3 ∧ l3 < 24 then (if 320 ≤ g 146 l3 then (jM_counted_4 L l1 (iw (l2 + 1)) (iw (l3 + 1)) (vI 1) g) else (if 4 ≤ l1 then (jM_counted_4 L l1 (iw (l2 + 0)) (iw (l3 + 1)) (vI 0) g) else (if 0 ≤ l3 ∧ l3 < 24 then (if iw (l1 - 1) ≠ g 145 l3 then (jM_counted_4 L l1 (iw (l2 + 0)) (iw (l3 + 1)) (vI 0) g) else (jM_counted_4 L l1 (iw (l2 + 1)) (iw (l3 + 1)) (vI 1) g)) else none))) else none))) := by
  unfold jM_counted_4
  refine q_s (pc' := 5) (ls' := [vR 137, vI l1, vI l2, vI l3, w4]) (st' := [vI l3]) (g' := g) k183_4 rfl rfl ?_
  refine q_s (pc' := 6) (ls' := [vR 137, vI l1, vI l2, vI l3, w4]) (st' := [vR 137, vI l3]) (g' := g) k183_5 rfl rfl ?_
  refine q_getI (w := 10) (pc' := 9) k183_6 rfl rfl rfl rfl ?_
  refine q_ic (P := g 137 10 ≤ l3) (t := 76) (pc' := 12) k183_9 Iff.rfl rfl rfl (fun h1 => ?_) (fun h1 => ?_)
  · refine q_s (pc' := 77) (ls' := [vR 137, vI l1, vI l2, vI l3, w4]) (st' := [vI l2]) (g' := g) k183_76 rfl rfl ?_
    exact q_e k183_77 rfl rfl rfl
  · refine q_s (pc' := 13) (ls' := [vR 137, vI l1, vI l2, vI l3, w4]) (st' := [vI l1]) (g' := g) k183_12 rfl rfl ?_
    refine q_if (P := l1 = 0) (t := 50) (pc' := 16) k183_13 Iff.rfl rfl rfl (fun h2 => ?_) (fun h2 => ?_)
    · refine q_s (pc' := 51) (ls' := [vR 137, vI l1, vI l2, vI l3, w4]) (st' := [vI 1]) (g' := g) k183_50 rfl rfl ?_
      refine q_s (pc' := 55) (ls' := [vR 137, vI l1, vI l2, vI l3, w4]) (st' := [vI 1]) (g' := g) k183_51 rfl rfl ?_
      refine q_s (pc' := 57) (ls' := [vR 137, vI l1, vI l2, vI l3, vI 1]) (st' := []) (g' := g) k183_55 rfl rfl ?_
      refine q_s (pc' := 58) (ls' := [vR 137, vI l1, vI l2, vI l3, vI 1]) (st' := [vI l2]) (g' := g) k183_57 rfl rfl ?_
      refine q_s (pc' := 60) (ls' := [vR 137, vI l1, vI l2, vI l3, vI 1]) (st' := [vI 1, vI l2]) (g' := g) k183_58 rfl rfl ?_
      refine q_s (pc' := 63) (ls' := [vR 137, vI l1, vI l2, vI l3, vI 1]) (st' := [vI l2]) (g' := g) k183_60 rfl rfl ?_
      refine q_s (pc' := 64) (ls' := [vR 137, vI l1, vI l2, vI l3, vI 1]) (st' := [vI 1, vI l2]) (g' := g) k183_63 rfl rfl ?_
      refine q_s (pc' := 68) (ls' := [vR 137, vI l1, vI l2, vI l3, vI 1]) (st' := [vI 1, vI l2]) (g' := g) k183_64 rfl rfl ?_
      refine q_s (pc' := 69) (ls' := [vR 137, vI l1, vI l2, vI l3, vI 1]) (st' := [vI (iw (l2 + 1))]) (g' := g) k183_68 rfl rfl ?_
      refine q_s (pc' := 70) (ls' := [vR 137, vI l1, vI (iw (l2 + 1)), vI l3, vI 1]) (st' := []) (g' := g) k183_69 rfl rfl ?_
      refine q_s (pc' := 73) (ls' := [vR 137, vI l1, vI (iw (l2 + 1)), vI (iw (l3 + 1)), vI 1]) (st' := []) (g' := g) k183_70 rfl rfl ?_
      refine q_s (pc' := 4) (ls' := [vR 137, vI l1, vI (iw (l2 + 1)), vI (iw (l3 + 1)), vI 1]) (st' := []) (g' := g) k183_73 rfl rfl ?_
      rfl
    · refine q_s (pc' := 17) (ls' := [vR 137, vI l1, vI l2, vI l3, w4]) (st' := [vI l1]) (g' := g) k183_16 rfl rfl ?_
      refine q_s (pc' := 18) (ls' := [vR 137, vI l1, vI l2, vI l3, w4]) (st' := [vI 4, vI l1]) (g' := g) k183_17 rfl rfl ?_
      refine q_ic (P := l1 ≠ 4) (t := 33) (pc' := 21) k183_18 Iff.rfl rfl rfl (fun h3 => ?_) (fun h3 => ?_)
      · refine q_s (pc' := 34) (ls' := [vR 137, vI l1, vI l2, vI l3, w4]) (st' := [vI l1]) (g' := g) k183_33 rfl rfl ?_
        refine q_s (pc' := 35) (ls' := [vR 137, vI l1, vI l2, vI l3, w4]) (st' := [vI 4, vI l1]) (g' := g) k183_34 rfl rfl ?_
        refine q_ic (P := 4 ≤ l1) (t := 54) (pc' := 38) k183_35 Iff.rfl rfl rfl (fun h4 => ?_) (fun h4 => ?_)
        · refine q_s (pc' := 55) (ls' := [vR 137, vI l1, vI l2, vI l3, w4]) (st' := [vI 0]) (g' := g) k183_54 rfl rfl ?_
          refine q_s (pc' := 57) (ls' := [vR 137, vI l1, vI l2, vI l3, vI 0]) (st' := []) (g' := g) k183_55 rfl rfl ?_
          refine q_s (pc' := 58) (ls' := [vR 137, vI l1, vI l2, vI l3, vI 0]) (st' := [vI l2]) (g' := g) k183_57 rfl rfl ?_
          refine q_s (pc' := 60) (ls' := [vR 137, vI l1, vI l2, vI l3, vI 0]) (st' := [vI 0, vI l2]) (g' := g) k183_58 rfl rfl ?_
          refine q_s (pc' := 67) (ls' := [vR 137, vI l1, vI l2, vI l3, vI 0]) (st' := [vI l2]) (g' := g) k183_60 rfl rfl ?_
          refine q_s (pc' := 68) (ls' := [vR 137, vI l1, vI l2, vI l3, vI 0]) (st' := [vI 0, vI l2]) (g' := g) k183_67 rfl rfl ?_
          refine q_s (pc' := 69) (ls' := [vR 137, vI l1, vI l2, vI l3, vI 0]) (st' := [vI (iw (l2 + 0))]) (g' := g) k183_68 rfl rfl ?_
          refine q_s (pc' := 70) (ls' := [vR 137, vI l1, vI (iw (l2 + 0)), vI l3, vI 0]) (st' := []) (g' := g) k183_69 rfl rfl ?_
          refine q_s (pc' := 73) (ls' := [vR 137, vI l1, vI (iw (l2 + 0)), vI (iw (l3 + 1)), vI 0]) (st' := []) (g' := g) k183_70 rfl rfl ?_
          refine q_s (pc' := 4) (ls' := [vR 137, vI l1, vI (iw (l2 + 0)), vI (iw (l3 + 1)), vI 0]) (st' := []) (g' := g) k183_73 rfl rfl ?_
          rfl
        · refine q_s (pc' := 39) (ls' := [vR 137, vI l1, vI l2, vI l3, w4]) (st' := [vI l1]) (g' := g) k183_38 rfl rfl ?_
          refine q_s (pc' := 40) (ls' := [vR 137, vI l1, vI l2, vI l3, w4]) (st' := [vI 1, vI l1]) (g' := g) k183_39 rfl rfl ?_
          refine q_s (pc' := 41) (ls' := [vR 137, vI l1, vI l2, vI l3, w4]) (st' := [vI (iw (l1 - 1))]) (g' := g) k183_40 rfl rfl ?_
          refine q_s (pc' := 42) (ls' := [vR 137, vI l1, vI l2, vI l3, w4]) (st' := [vR 137, vI (iw (l1 - 1))]) (g' := g) k183_41 rfl rfl ?_
          refine q_getF (r := 145) (pc' := 45) k183_42 rfl rfl rfl rfl ?_
          refine q_s (pc' := 46) (ls' := [vR 137, vI l1, vI l2, vI l3, w4]) (st' := [vI l3, vR 145, vI (iw (l1 - 1))]) (g' := g) k183_45 rfl rfl ?_
          refine q_iald (n := 24) (pc' := 47) rfl k183_46 rfl rfl (fun h5 => ?_)
          refine q_ic (P := iw (l1 - 1) ≠ g 145 l3) (t := 54) (pc' := 50) k183_47 Iff.rfl rfl rfl (fun h6 => ?_) (fun h6 => ?_)
          · refine q_s (pc' := 55) (ls' := [vR 137, vI l1, vI l2, vI l3, w4]) (st' := [vI 0]) (g' := g) k183_54 rfl rfl ?_
            refine q_s (pc' := 57) (ls' := [vR 137, vI l1, vI l2, vI l3, vI 0]) (st' := []) (g' := g) k183_55 rfl rfl ?_
            refine q_s (pc' := 58) (ls' := [vR 137, vI l1, vI l2, vI l3, vI 0]) (st' := [vI l2]) (g' := g) k183_57 rfl rfl ?_
            refine q_s (pc' := 60) (ls' := [vR 137, vI l1, vI l2, vI l3, vI 0]) (st' := [vI 0, vI l2]) (g' := g) k183_58 rfl rfl ?_
            refine q_s (pc' := 67) (ls' := [vR 137, vI l1, vI l2, vI l3, vI 0]) (st' := [vI l2]) (g' := g) k183_60 rfl rfl ?_
            refine q_s (pc' := 68) (ls' := [vR 137, vI l1, vI l2, vI l3, vI 0]) (st' := [vI 0, vI l2]) (g' := g) k183_67 rfl rfl ?_
            refine q_s (pc' := 69) (ls' := [vR 137, vI l1, vI l2, vI l3, vI 0]) (st' := [vI (iw (l2 + 0))]) (g' := g) k183_68 rfl rfl ?_
            refine q_s (pc' := 70) (ls' := [vR 137, vI l1, vI (iw (l2 + 0)), vI l3, vI 0]) (st' := []) (g' := g) k183_69 rfl rfl ?_
            refine q_s (pc' := 73) (ls' := [vR 137, vI l1, vI (iw (l2 + 0)), vI (iw (l3 + 1)), vI 0]) (st' := []) (g' := g) k183_70 rfl rfl ?_
            refine q_s (pc' := 4) (ls' := [vR 137, vI l1, vI (iw (l2 + 0)), vI (iw (l3 + 1)), vI 0]) (st' := []) (g' := g) k183_73 rfl rfl ?_
            rfl
          · refine q_s (pc' := 51) (ls' := [vR 137, vI l1, vI l2, vI l3, w4]) (st' := [vI 1]) (g' := g) k183_50 rfl rfl ?_
            refine q_s (pc' := 55) (ls' := [vR 137, vI l1, vI l2, vI l3, w4]) (st' := [vI 1]) (g' := g) k183_51 rfl rfl ?_
            refine q_s (pc' := 57) (ls' := [vR 137, vI l1, vI l2, vI l3, vI 1]) (st' := []) (g' := g) k183_55 rfl rfl ?_
            refine q_s (pc' := 58) (ls' := [vR 137, vI l1, vI l2, vI l3, vI 1]) (st' := [vI l2]) (g' := g) k183_57 rfl rfl ?_
            refine q_s (pc' := 60) (ls' := [vR 137, vI l1, vI l2, vI l3, vI 1]) (st' := [vI 1, vI l2]) (g' := g) k183_58 rfl rfl ?_
            refine q_s (pc' := 63) (ls' := [vR 137, vI l1, vI l2, vI l3, vI 1]) (st' := [vI l2]) (g' := g) k183_60 rfl rfl ?_
            refine q_s (pc' := 64) (ls' := [vR 137, vI l1, vI l2, vI l3, vI 1]) (st' := [vI 1, vI l2]) (g' := g) k183_63 rfl rfl ?_
            refine q_s (pc' := 68) (ls' := [vR 137, vI l1, vI l2, vI l3, vI 1]) (st' := [vI 1, vI l2]) (g' := g) k183_64 rfl rfl ?_
            refine q_s (pc' := 69) (ls' := [vR 137, vI l1, vI l2, vI l3, vI 1]) (st' := [vI (iw (l2 + 1))]) (g' := g) k183_68 rfl rfl ?_
            refine q_s (pc' := 70) (ls' := [vR 137, vI l1, vI (iw (l2 + 1)), vI l3, vI 1]) (st' := []) (g' := g) k183_69 rfl rfl ?_
            refine q_s (pc' := 73) (ls' := [vR 137, vI l1, vI (iw (l2 + 1)), vI (iw (l3 + 1)), vI 1]) (st' := []) (g' := g) k183_70 rfl rfl ?_
            refine q_s (pc' := 4) (ls' := [vR 137, vI l1, vI (iw (l2 + 1)), vI (iw (l3 + 1)), vI 1]) (st' := []) (g' := g) k183_73 rfl rfl ?_
            rfl
      · refine q_s (pc' := 22) (ls' := [vR 137, vI l1, vI l2, vI l3, w4]) (st' := [vR 137]) (g' := g) k183_21 rfl rfl ?_
        refine q_getF (r := 146) (pc' := 25) k183_22 rfl rfl rfl rfl ?_
        refine q_s (pc' := 26) (ls' := [vR 137, vI l1, vI l2, vI l3, w4]) (st' := [vI l3, vR 146]) (g' := g) k183_25 rfl rfl ?_
        refine q_iald (n := 24) (pc' := 27) rfl k183_26 rfl rfl (fun h7 => ?_)
        refine q_s (pc' := 30) (ls' := [vR 137, vI l1, vI l2, vI l3, w4]) (st' := [vI 320, vI (g 146 l3)]) (g' := g) k183_27 rfl rfl ?_
        refine q_ic (P := 320 ≤ g 146 l3) (t := 50) (pc' := 33) k183_30 Iff.rfl rfl rfl (fun h8 => ?_) (fun h8 => ?_)
        · refine q_s (pc' := 51) (ls' := [vR 137, vI l1, vI l2, vI l3, w4]) (st' := [vI 1]) (g' := g) k183_50 rfl rfl ?_
          refine q_s (pc' := 55) (ls' := [vR 137, vI l1, vI l2, vI l3, w4]) (st' := [vI 1]) (g' := g) k183_51 rfl rfl ?_
          refine q_s (pc' := 57) (ls' := [vR 137, vI l1, vI l2, vI l3, vI 1]) (st' := []) (g' := g) k183_55 rfl rfl ?_
          refine q_s (pc' := 58) (ls' := [vR 137, vI l1, vI l2, vI l3, vI 1]) (st' := [vI l2]) (g' := g) k183_57 rfl rfl ?_
          refine q_s (pc' := 60) (ls' := [vR 137, vI l1, vI l2, vI l3, vI 1]) (st' := [vI 1, vI l2]) (g' := g) k183_58 rfl rfl ?_
          refine q_s (pc' := 63) (ls' := [vR 137, vI l1, vI l2, vI l3, vI 1]) (st' := [vI l2]) (g' := g) k183_60 rfl rfl ?_
          refine q_s (pc' := 64) (ls' := [vR 137, vI l1, vI l2, vI l3, vI 1]) (st' := [vI 1, vI l2]) (g' := g) k183_63 rfl rfl ?_
          refine q_s (pc' := 68) (ls' := [vR 137, vI l1, vI l2, vI l3, vI 1]) (st' := [vI 1, vI l2]) (g' := g) k183_64 rfl rfl ?_
          refine q_s (pc' := 69) (ls' := [vR 137, vI l1, vI l2, vI l3, vI 1]) (st' := [vI (iw (l2 + 1))]) (g' := g) k183_68 rfl rfl ?_
          refine q_s (pc' := 70) (ls' := [vR 137, vI l1, vI (iw (l2 + 1)), vI l3, vI 1]) (st' := []) (g' := g) k183_69 rfl rfl ?_
          refine q_s (pc' := 73) (ls' := [vR 137, vI l1, vI (iw (l2 + 1)), vI (iw (l3 + 1)), vI 1]) (st' := []) (g' := g) k183_70 rfl rfl ?_
          refine q_s (pc' := 4) (ls' := [vR 137, vI l1, vI (iw (l2 + 1)), vI (iw (l3 + 1)), vI 1]) (st' := []) (g' := g) k183_73 rfl rfl ?_
          rfl
        · refine q_s (pc' := 34) (ls' := [vR 137, vI l1, vI l2, vI l3, w4]) (st' := [vI l1]) (g' := g) k183_33 rfl rfl ?_
          refine q_s (pc' := 35) (ls' := [vR 137, vI l1, vI l2, vI l3, w4]) (st' := [vI 4, vI l1]) (g' := g) k183_34 rfl rfl ?_
          refine q_ic (P := 4 ≤ l1) (t := 54) (pc' := 38) k183_35 Iff.rfl rfl rfl (fun h9 => ?_) (fun h9 => ?_)
          · refine q_s (pc' := 55) (ls' := [vR 137, vI l1, vI l2, vI l3, w4]) (st' := [vI 0]) (g' := g) k183_54 rfl rfl ?_
            refine q_s (pc' := 57) (ls' := [vR 137, vI l1, vI l2, vI l3, vI 0]) (st' := []) (g' := g) k183_55 rfl rfl ?_
            refine q_s (pc' := 58) (ls' := [vR 137, vI l1, vI l2, vI l3, vI 0]) (st' := [vI l2]) (g' := g) k183_57 rfl rfl ?_
            refine q_s (pc' := 60) (ls' := [vR 137, vI l1, vI l2, vI l3, vI 0]) (st' := [vI 0, vI l2]) (g' := g) k183_58 rfl rfl ?_
            refine q_s (pc' := 67) (ls' := [vR 137, vI l1, vI l2, vI l3, vI 0]) (st' := [vI l2]) (g' := g) k183_60 rfl rfl ?_
            refine q_s (pc' := 68) (ls' := [vR 137, vI l1, vI l2, vI l3, vI 0]) (st' := [vI 0, vI l2]) (g' := g) k183_67 rfl rfl ?_
            refine q_s (pc' := 69) (ls' := [vR 137, vI l1, vI l2, vI l3, vI 0]) (st' := [vI (iw (l2 + 0))]) (g' := g) k183_68 rfl rfl ?_
            refine q_s (pc' := 70) (ls' := [vR 137, vI l1, vI (iw (l2 + 0)), vI l3, vI 0]) (st' := []) (g' := g) k183_69 rfl rfl ?_
            refine q_s (pc' := 73) (ls' := [vR 137, vI l1, vI (iw (l2 + 0)), vI (iw (l3 + 1)), vI 0]) (st' := []) (g' := g) k183_70 rfl rfl ?_
            refine q_s (pc' := 4) (ls' := [vR 137, vI l1, vI (iw (l2 + 0)), vI (iw (l3 + 1)), vI 0]) (st' := []) (g' := g) k183_73 rfl rfl ?_
            rfl
          · refine q_s (pc' := 39) (ls' := [vR 137, vI l1, vI l2, vI l3, w4]) (st' := [vI l1]) (g' := g) k183_38 rfl rfl ?_
            refine q_s (pc' := 40) (ls' := [vR 137, vI l1, vI l2, vI l3, w4]) (st' := [vI 1, vI l1]) (g' := g) k183_39 rfl rfl ?_
            refine q_s (pc' := 41) (ls' := [vR 137, vI l1, vI l2, vI l3, w4]) (st' := [vI (iw (l1 - 1))]) (g' := g) k183_40 rfl rfl ?_
            refine q_s (pc' := 42) (ls' := [vR 137, vI l1, vI l2, vI l3, w4]) (st' := [vR 137, vI (iw (l1 - 1))]) (g' := g) k183_41 rfl rfl ?_
            refine q_getF (r := 145) (pc' := 45) k183_42 rfl rfl rfl rfl ?_
            refine q_s (pc' := 46) (ls' := [vR 137, vI l1, vI l2, vI l3, w4]) (st' := [vI l3, vR 145, vI (iw (l1 - 1))]) (g' := g) k183_45 rfl rfl ?_
            refine q_iald (n := 24) (pc' := 47) rfl k183_46 rfl rfl (fun h10 => ?_)
            refine q_ic (P := iw (l1 - 1) ≠ g 145 l3) (t := 54) (pc' := 50) k183_47 Iff.rfl rfl rfl (fun h11 => ?_) (fun h11 => ?_)
            · refine q_s (pc' := 55) (ls' := [vR 137, vI l1, vI l2, vI l3, w4]) (st' := [vI 0]) (g' := g) k183_54 rfl rfl ?_
              refine q_s (pc' := 57) (ls' := [vR 137, vI l1, vI l2, vI l3, vI 0]) (st' := []) (g' := g) k183_55 rfl rfl ?_
              refine q_s (pc' := 58) (ls' := [vR 137, vI l1, vI l2, vI l3, vI 0]) (st' := [vI l2]) (g' := g) k183_57 rfl rfl ?_
              refine q_s (pc' := 60) (ls' := [vR 137, vI l1, vI l2, vI l3, vI 0]) (st' := [vI 0, vI l2]) (g' := g) k183_58 rfl rfl ?_
              refine q_s (pc' := 67) (ls' := [vR 137, vI l1, vI l2, vI l3, vI 0]) (st' := [vI l2]) (g' := g) k183_60 rfl rfl ?_
              refine q_s (pc' := 68) (ls' := [vR 137, vI l1, vI l2, vI l3, vI 0]) (st' := [vI 0, vI l2]) (g' := g) k183_67 rfl rfl ?_
              refine q_s (pc' := 69) (ls' := [vR 137, vI l1, vI l2, vI l3, vI 0]) (st' := [vI (iw (l2 + 0))]) (g' := g) k183_68 rfl rfl ?_
              refine q_s (pc' := 70) (ls' := [vR 137, vI l1, vI (iw (l2 + 0)), vI l3, vI 0]) (st' := []) (g' := g) k183_69 rfl rfl ?_
              refine q_s (pc' := 73) (ls' := [vR 137, vI l1, vI (iw (l2 + 0)), vI (iw (l3 + 1)), vI 0]) (st' := []) (g' := g) k183_70 rfl rfl ?_
              refine q_s (pc' := 4) (ls' := [vR 137, vI l1, vI (iw (l2 + 0)), vI (iw (l3 + 1)), vI 0]) (st' := []) (g' := g) k183_73 rfl rfl ?_
              rfl
            · refine q_s (pc' := 51) (ls' := [vR 137, vI l1, vI l2, vI l3, w4]) (st' := [vI 1]) (g' := g) k183_50 rfl rfl ?_
              refine q_s (pc' := 55) (ls' := [vR 137, vI l1, vI l2, vI l3, w4]) (st' := [vI 1]) (g' := g) k183_51 rfl rfl ?_
              refine q_s (pc' := 57) (ls' := [vR 137, vI l1, vI l2, vI l3, vI 1]) (st' := []) (g' := g) k183_55 rfl rfl ?_
              refine q_s (pc' := 58) (ls' := [vR 137, vI l1, vI l2, vI l3, vI 1]) (st' := [vI l2]) (g' := g) k183_57 rfl rfl ?_
              refine q_s (pc' := 60) (ls' := [vR 137, vI l1, vI l2, vI l3, vI 1]) (st' := [vI 1, vI l2]) (g' := g) k183_58 rfl rfl ?_
              refine q_s (pc' := 63) (ls' := [vR 137, vI l1, vI l2, vI l3, vI 1]) (st' := [vI l2]) (g' := g) k183_60 rfl rfl ?_
              refine q_s (pc' := 64) (ls' := [vR 137, vI l1, vI l2, vI l3, vI 1]) (st' := [vI 1, vI l2]) (g' := g) k183_63 rfl rfl ?_
              refine q_s (pc' := 68) (ls' := [vR 137, vI l1, vI l2, vI l3, vI 1]) (st' := [vI 1, vI l2]) (g' := g) k183_64 rfl rfl ?_
              refine q_s (pc' := 69) (ls' := [vR 137, vI l1, vI l2, vI l3, vI 1]) (st' := [vI (iw (l2 + 1))]) (g' := g) k183_68 rfl rfl ?_
              refine q_s (pc' := 70) (ls' := [vR 137, vI l1, vI (iw (l2 + 1)), vI l3, vI 1]) (st' := []) (g' := g) k183_69 rfl rfl ?_
              refine q_s (pc' := 73) (ls' := [vR 137, vI l1, vI (iw (l2 + 1)), vI (iw (l3 + 1)), vI 1]) (st' := []) (g' := g) k183_70 rfl rfl ?_
              refine q_s (pc' := 4) (ls' := [vR 137, vI l1, vI (iw (l2 + 1)), vI (iw (l3 + 1)), vI 1]) (st' := []) (g' := g) k183_73 rfl rfl ?_
              rfl
set_option maxHeartbeats 4000000 in
theorem jM_steps_eq (L : Nat) (a1 : Int) (a2 : Int) (g : AMem) : jM_steps L a1 a2 g = (jM_isEdge L a1 g).bind (fun q1 => if q1.1 = 0 then ((jM_bad L q1.2).bind (fun q3 => some (q3.1, q3.2))) else ((jM_in L a2 0 4 q1.2).bind (fun q4 => if q4.1 ≠ 0 then ((jM_isClear L a1 q4.2).bind (fun q6 => if q6.1 ≠ 0 then ((jM_setSteps L a1 (q6.2 137 3) q6.2).bind (fun q8 => (jM_counted L a2 q8).bind (fun q9 => some (q9.1, q9.2)))) else ((jM_no L q6.2).bind (fun q10 => some (q10.1, q10.2))))) else ((jM_bad L q4.2).bind (fun q11 => some (q11.1, q11.2)))))) := by
  unfold jM_steps
  refine q_s (pc' := 1) (ls' := [vR 137, vI a1, vI a2]) (st' := [vR 137]) (g' := g) k184_0 rfl rfl ?_
  refine q_s (pc' := 2) (ls' := [vR 137, vI a1, vI a2]) (st' := [vI a1, vR 137]) (g' := g) k184_1 rfl rfl ?_
  refine q_callI (ls0 := [vR 137, vI a1]) (rest := []) (pc' := 5) rfl k184_2 rfl (hy4 rfl rfl rfl rfl) rfl rfl hq_144 rfl (fun q1 => ?_)
  refine q_if (P := q1.1 = 0) (t := 17) (pc' := 8) k184_5 Iff.rfl rfl rfl (fun h2 => ?_) (fun h2 => ?_)
  · refine q_s (pc' := 18) (ls' := [vR 137, vI a1, vI a2]) (st' := [vR 137]) (g' := q1.2) k184_17 rfl rfl ?_
    refine q_callI (ls0 := [vR 137]) (rest := []) (pc' := 21) rfl k184_18 rfl (hy4 rfl rfl rfl rfl) rfl rfl hq_133 rfl (fun q3 => ?_)
    exact q_e k184_21 rfl rfl rfl
  · refine q_s (pc' := 9) (ls' := [vR 137, vI a1, vI a2]) (st' := [vI a2]) (g' := q1.2) k184_8 rfl rfl ?_
    refine q_s (pc' := 10) (ls' := [vR 137, vI a1, vI a2]) (st' := [vI 0, vI a2]) (g' := q1.2) k184_9 rfl rfl ?_
    refine q_s (pc' := 11) (ls' := [vR 137, vI a1, vI a2]) (st' := [vI 4, vI 0, vI a2]) (g' := q1.2) k184_10 rfl rfl ?_
    refine q_callI (ls0 := [vI a2, vI 0, vI 4]) (rest := []) (pc' := 14) rfl k184_11 rfl (hy4 rfl rfl rfl rfl) rfl rfl hq_136 rfl (fun q4 => ?_)
    refine q_if (P := q4.1 ≠ 0) (t := 22) (pc' := 17) k184_14 Iff.rfl rfl rfl (fun h5 => ?_) (fun h5 => ?_)
    · refine q_s (pc' := 23) (ls' := [vR 137, vI a1, vI a2]) (st' := [vR 137]) (g' := q4.2) k184_22 rfl rfl ?_
      refine q_s (pc' := 24) (ls' := [vR 137, vI a1, vI a2]) (st' := [vI a1, vR 137]) (g' := q4.2) k184_23 rfl rfl ?_
      refine q_callI (ls0 := [vR 137, vI a1, vU, vU]) (rest := []) (pc' := 27) rfl k184_24 rfl (hy4 rfl rfl rfl rfl) rfl rfl hq_165 rfl (fun q6 => ?_)
      refine q_if (P := q6.1 ≠ 0) (t := 35) (pc' := 30) k184_27 Iff.rfl rfl rfl (fun h7 => ?_) (fun h7 => ?_)
      · refine q_s (pc' := 36) (ls' := [vR 137, vI a1, vI a2]) (st' := [vR 137]) (g' := q6.2) k184_35 rfl rfl ?_
        refine q_s (pc' := 37) (ls' := [vR 137, vI a1, vI a2]) (st' := [vI a1, vR 137]) (g' := q6.2) k184_36 rfl rfl ?_
        refine q_s (pc' := 38) (ls' := [vR 137, vI a1, vI a2]) (st' := [vR 137, vI a1, vR 137]) (g' := q6.2) k184_37 rfl rfl ?_
        refine q_getI (w := 3) (pc' := 41) k184_38 rfl rfl rfl rfl ?_
        refine q_callV (ls0 := [vR 137, vI a1, vI (q6.2 137 3), vU, vU, vU]) (rest := []) (pc' := 44) rfl k184_41 rfl (hy4 rfl rfl rfl rfl) rfl rfl hq_181 rfl (fun q8 => ?_)
        refine q_s (pc' := 45) (ls' := [vR 137, vI a1, vI a2]) (st' := [vR 137]) (g' := q8) k184_44 rfl rfl ?_
        refine q_s (pc' := 46) (ls' := [vR 137, vI a1, vI a2]) (st' := [vI a2, vR 137]) (g' := q8) k184_45 rfl rfl ?_
        refine q_callI (ls0 := [vR 137, vI a2, vU, vU, vU]) (rest := []) (pc' := 49) rfl k184_46 rfl (hy4 rfl rfl rfl rfl) rfl rfl hq_183 rfl (fun q9 => ?_)
        exact q_e k184_49 rfl rfl rfl
      · refine q_s (pc' := 31) (ls' := [vR 137, vI a1, vI a2]) (st' := [vR 137]) (g' := q6.2) k184_30 rfl rfl ?_
        refine q_callI (ls0 := [vR 137]) (rest := []) (pc' := 34) rfl k184_31 rfl (hy4 rfl rfl rfl rfl) rfl rfl hq_134 rfl (fun q10 => ?_)
        exact q_e k184_34 rfl rfl rfl
    · refine q_s (pc' := 18) (ls' := [vR 137, vI a1, vI a2]) (st' := [vR 137]) (g' := q4.2) k184_17 rfl rfl ?_
      refine q_callI (ls0 := [vR 137]) (rest := []) (pc' := 21) rfl k184_18 rfl (hy4 rfl rfl rfl rfl) rfl rfl hq_133 rfl (fun q11 => ?_)
      exact q_e k184_21 rfl rfl rfl
set_option maxHeartbeats 4000000 in
theorem jM_step_eq (L : Nat) (a1 : Int) (a2 : Int) (a3 : Int) (g : AMem) : jM_step L a1 a2 a3 g = (jM_isEdge L a1 g).bind (fun q1 => if q1.1 = 0 then ((jM_bad L q1.2).bind (fun q3 => some (q3.1, q3.2))) else (if a2 < 0 then ((jM_bad L q1.2).bind (fun q5 => some (q5.1, q5.2))) else ((jM_in L a3 0 2 q1.2).bind (fun q6 => if q6.1 ≠ 0 then ((jM_isClear L a1 q6.2).bind (fun q8 => if q8.1 ≠ 0 then ((jM_setSteps L a1 (q8.2 137 3) q8.2).bind (fun q10 => if a2 < q10 137 10 then (if a3 ≠ 0 then (if a3 ≠ 1 then (if 0 ≤ a2 ∧ a2 < 24 then (some (q10 147 a2, q10)) else none) else (if 0 ≤ a2 ∧ a2 < 24 then (some (q10 146 a2, q10)) else none)) else (if 0 ≤ a2 ∧ a2 < 24 then (some (q10 145 a2, q10)) else none)) else (some ((-201), q10)))) else ((jM_no L q8.2).bind (fun q17 => some (q17.1, q17.2))))) else ((jM_bad L q6.2).bind (fun q18 => some (q18.1, q18.2))))))) := by
  unfold jM_step
  refine q_s (pc' := 1) (ls' := [vR 137, vI a1, vI a2, vI a3]) (st' := [vR 137]) (g' := g) k185_0 rfl rfl ?_
  refine q_s (pc' := 2) (ls' := [vR 137, vI a1, vI a2, vI a3]) (st' := [vI a1, vR 137]) (g' := g) k185_1 rfl rfl ?_
  refine q_callI (ls0 := [vR 137, vI a1]) (rest := []) (pc' := 5) rfl k185_2 rfl (hy4 rfl rfl rfl rfl) rfl rfl hq_144 rfl (fun q1 => ?_)
  refine q_if (P := q1.1 = 0) (t := 21) (pc' := 8) k185_5 Iff.rfl rfl rfl (fun h2 => ?_) (fun h2 => ?_)
  · refine q_s (pc' := 22) (ls' := [vR 137, vI a1, vI a2, vI a3]) (st' := [vR 137]) (g' := q1.2) k185_21 rfl rfl ?_
    refine q_callI (ls0 := [vR 137]) (rest := []) (pc' := 25) rfl k185_22 rfl (hy4 rfl rfl rfl rfl) rfl rfl hq_133 rfl (fun q3 => ?_)
    exact q_e k185_25 rfl rfl rfl
  · refine q_s (pc' := 9) (ls' := [vR 137, vI a1, vI a2, vI a3]) (st' := [vI a2]) (g' := q1.2) k185_8 rfl rfl ?_
    refine q_if (P := a2 < 0) (t := 21) (pc' := 12) k185_9 Iff.rfl rfl rfl (fun h4 => ?_) (fun h4 => ?_)
    · refine q_s (pc' := 22) (ls' := [vR 137, vI a1, vI a2, vI a3]) (st' := [vR 137]) (g' := q1.2) k185_21 rfl rfl ?_
      refine q_callI (ls0 := [vR 137]) (rest := []) (pc' := 25) rfl k185_22 rfl (hy4 rfl rfl rfl rfl) rfl rfl hq_133 rfl (fun q5 => ?_)
      exact q_e k185_25 rfl rfl rfl
    · refine q_s (pc' := 13) (ls' := [vR 137, vI a1, vI a2, vI a3]) (st' := [vI a3]) (g' := q1.2) k185_12 rfl rfl ?_
      refine q_s (pc' := 14) (ls' := [vR 137, vI a1, vI a2, vI a3]) (st' := [vI 0, vI a3]) (g' := q1.2) k185_13 rfl rfl ?_
      refine q_s (pc' := 15) (ls' := [vR 137, vI a1, vI a2, vI a3]) (st' := [vI 2, vI 0, vI a3]) (g' := q1.2) k185_14 rfl rfl ?_
      refine q_callI (ls0 := [vI a3, vI 0, vI 2]) (rest := []) (pc' := 18) rfl k185_15 rfl (hy4 rfl rfl rfl rfl) rfl rfl hq_136 rfl (fun q6 => ?_)
      refine q_if (P := q6.1 ≠ 0) (t := 26) (pc' := 21) k185_18 Iff.rfl rfl rfl (fun h7 => ?_) (fun h7 => ?_)
      · refine q_s (pc' := 27) (ls' := [vR 137, vI a1, vI a2, vI a3]) (st' := [vR 137]) (g' := q6.2) k185_26 rfl rfl ?_
        refine q_s (pc' := 28) (ls' := [vR 137, vI a1, vI a2, vI a3]) (st' := [vI a1, vR 137]) (g' := q6.2) k185_27 rfl rfl ?_
        refine q_callI (ls0 := [vR 137, vI a1, vU, vU]) (rest := []) (pc' := 31) rfl k185_28 rfl (hy4 rfl rfl rfl rfl) rfl rfl hq_165 rfl (fun q8 => ?_)
        refine q_if (P := q8.1 ≠ 0) (t := 39) (pc' := 34) k185_31 Iff.rfl rfl rfl (fun h9 => ?_) (fun h9 => ?_)
        · refine q_s (pc' := 40) (ls' := [vR 137, vI a1, vI a2, vI a3]) (st' := [vR 137]) (g' := q8.2) k185_39 rfl rfl ?_
          refine q_s (pc' := 41) (ls' := [vR 137, vI a1, vI a2, vI a3]) (st' := [vI a1, vR 137]) (g' := q8.2) k185_40 rfl rfl ?_
          refine q_s (pc' := 42) (ls' := [vR 137, vI a1, vI a2, vI a3]) (st' := [vR 137, vI a1, vR 137]) (g' := q8.2) k185_41 rfl rfl ?_
          refine q_getI (w := 3) (pc' := 45) k185_42 rfl rfl rfl rfl ?_
          refine q_callV (ls0 := [vR 137, vI a1, vI (q8.2 137 3), vU, vU, vU]) (rest := []) (pc' := 48) rfl k185_45 rfl (hy4 rfl rfl rfl rfl) rfl rfl hq_181 rfl (fun q10 => ?_)
          refine q_s (pc' := 49) (ls' := [vR 137, vI a1, vI a2, vI a3]) (st' := [vI a2]) (g' := q10) k185_48 rfl rfl ?_
          refine q_s (pc' := 50) (ls' := [vR 137, vI a1, vI a2, vI a3]) (st' := [vR 137, vI a2]) (g' := q10) k185_49 rfl rfl ?_
          refine q_getI (w := 10) (pc' := 53) k185_50 rfl rfl rfl rfl ?_
          refine q_ic (P := a2 < q10 137 10) (t := 60) (pc' := 56) k185_53 Iff.rfl rfl rfl (fun h11 => ?_) (fun h11 => ?_)
          · refine q_s (pc' := 61) (ls' := [vR 137, vI a1, vI a2, vI a3]) (st' := [vI a3]) (g' := q10) k185_60 rfl rfl ?_
            refine q_if (P := a3 ≠ 0) (t := 73) (pc' := 64) k185_61 Iff.rfl rfl rfl (fun h12 => ?_) (fun h12 => ?_)
            · refine q_s (pc' := 74) (ls' := [vR 137, vI a1, vI a2, vI a3]) (st' := [vI a3]) (g' := q10) k185_73 rfl rfl ?_
              refine q_s (pc' := 75) (ls' := [vR 137, vI a1, vI a2, vI a3]) (st' := [vI 1, vI a3]) (g' := q10) k185_74 rfl rfl ?_
              refine q_ic (P := a3 ≠ 1) (t := 87) (pc' := 78) k185_75 Iff.rfl rfl rfl (fun h13 => ?_) (fun h13 => ?_)
              · refine q_s (pc' := 88) (ls' := [vR 137, vI a1, vI a2, vI a3]) (st' := [vR 137]) (g' := q10) k185_87 rfl rfl ?_
                refine q_getF (r := 147) (pc' := 91) k185_88 rfl rfl rfl rfl ?_
                refine q_s (pc' := 92) (ls' := [vR 137, vI a1, vI a2, vI a3]) (st' := [vI a2, vR 147]) (g' := q10) k185_91 rfl rfl ?_
                refine q_iald (n := 24) (pc' := 93) rfl k185_92 rfl rfl (fun h14 => ?_)
                exact q_e k185_93 rfl rfl rfl
              · refine q_s (pc' := 79) (ls' := [vR 137, vI a1, vI a2, vI a3]) (st' := [vR 137]) (g' := q10) k185_78 rfl rfl ?_
                refine q_getF (r := 146) (pc' := 82) k185_79 rfl rfl rfl rfl ?_
                refine q_s (pc' := 83) (ls' := [vR 137, vI a1, vI a2, vI a3]) (st' := [vI a2, vR 146]) (g' := q10) k185_82 rfl rfl ?_
                refine q_iald (n := 24) (pc' := 84) rfl k185_83 rfl rfl (fun h15 => ?_)
                refine q_s (pc' := 93) (ls' := [vR 137, vI a1, vI a2, vI a3]) (st' := [vI (q10 146 a2)]) (g' := q10) k185_84 rfl rfl ?_
                exact q_e k185_93 rfl rfl rfl
            · refine q_s (pc' := 65) (ls' := [vR 137, vI a1, vI a2, vI a3]) (st' := [vR 137]) (g' := q10) k185_64 rfl rfl ?_
              refine q_getF (r := 145) (pc' := 68) k185_65 rfl rfl rfl rfl ?_
              refine q_s (pc' := 69) (ls' := [vR 137, vI a1, vI a2, vI a3]) (st' := [vI a2, vR 145]) (g' := q10) k185_68 rfl rfl ?_
              refine q_iald (n := 24) (pc' := 70) rfl k185_69 rfl rfl (fun h16 => ?_)
              refine q_s (pc' := 93) (ls' := [vR 137, vI a1, vI a2, vI a3]) (st' := [vI (q10 145 a2)]) (g' := q10) k185_70 rfl rfl ?_
              exact q_e k185_93 rfl rfl rfl
          · refine q_s (pc' := 59) (ls' := [vR 137, vI a1, vI a2, vI a3]) (st' := [vI (-201)]) (g' := q10) k185_56 rfl rfl ?_
            exact q_e k185_59 rfl rfl rfl
        · refine q_s (pc' := 35) (ls' := [vR 137, vI a1, vI a2, vI a3]) (st' := [vR 137]) (g' := q8.2) k185_34 rfl rfl ?_
          refine q_callI (ls0 := [vR 137]) (rest := []) (pc' := 38) rfl k185_35 rfl (hy4 rfl rfl rfl rfl) rfl rfl hq_134 rfl (fun q17 => ?_)
          exact q_e k185_38 rfl rfl rfl
      · refine q_s (pc' := 22) (ls' := [vR 137, vI a1, vI a2, vI a3]) (st' := [vR 137]) (g' := q6.2) k185_21 rfl rfl ?_
        refine q_callI (ls0 := [vR 137]) (rest := []) (pc' := 25) rfl k185_22 rfl (hy4 rfl rfl rfl rfl) rfl rfl hq_133 rfl (fun q18 => ?_)
        exact q_e k185_25 rfl rfl rfl
set_option maxHeartbeats 4000000 in
theorem jM_cost_eq (L : Nat) (a1 : Int) (g : AMem) : jM_cost L a1 g = (jM_isEdge L a1 g).bind (fun q1 => if q1.1 ≠ 0 then ((jM_isClear L a1 q1.2).bind (fun q3 => if q3.1 = 0 then ((jM_no L q3.2).bind (fun q5 => some (q5.1, q5.2))) else ((jM_costBy L a1 (q3.2 137 3) q3.2).bind (fun q6 => some (q6.1, q6.2))))) else ((jM_bad L q1.2).bind (fun q7 => some (q7.1, q7.2)))) := by
  unfold jM_cost
  refine q_s (pc' := 1) (ls' := [vR 137, vI a1]) (st' := [vR 137]) (g' := g) k186_0 rfl rfl ?_
  refine q_s (pc' := 2) (ls' := [vR 137, vI a1]) (st' := [vI a1, vR 137]) (g' := g) k186_1 rfl rfl ?_
  refine q_callI (ls0 := [vR 137, vI a1]) (rest := []) (pc' := 5) rfl k186_2 rfl (hy4 rfl rfl rfl rfl) rfl rfl hq_144 rfl (fun q1 => ?_)
  refine q_if (P := q1.1 ≠ 0) (t := 13) (pc' := 8) k186_5 Iff.rfl rfl rfl (fun h2 => ?_) (fun h2 => ?_)
  · refine q_s (pc' := 14) (ls' := [vR 137, vI a1]) (st' := [vR 137]) (g' := q1.2) k186_13 rfl rfl ?_
    refine q_s (pc' := 15) (ls' := [vR 137, vI a1]) (st' := [vI a1, vR 137]) (g' := q1.2) k186_14 rfl rfl ?_
    refine q_callI (ls0 := [vR 137, vI a1, vU, vU]) (rest := []) (pc' := 18) rfl k186_15 rfl (hy4 rfl rfl rfl rfl) rfl rfl hq_165 rfl (fun q3 => ?_)
    refine q_if (P := q3.1 = 0) (t := 33) (pc' := 21) k186_18 Iff.rfl rfl rfl (fun h4 => ?_) (fun h4 => ?_)
    · refine q_s (pc' := 34) (ls' := [vR 137, vI a1]) (st' := [vR 137]) (g' := q3.2) k186_33 rfl rfl ?_
      refine q_callI (ls0 := [vR 137]) (rest := []) (pc' := 37) rfl k186_34 rfl (hy4 rfl rfl rfl rfl) rfl rfl hq_134 rfl (fun q5 => ?_)
      exact q_e k186_37 rfl rfl rfl
    · refine q_s (pc' := 22) (ls' := [vR 137, vI a1]) (st' := [vR 137]) (g' := q3.2) k186_21 rfl rfl ?_
      refine q_s (pc' := 23) (ls' := [vR 137, vI a1]) (st' := [vI a1, vR 137]) (g' := q3.2) k186_22 rfl rfl ?_
      refine q_s (pc' := 24) (ls' := [vR 137, vI a1]) (st' := [vR 137, vI a1, vR 137]) (g' := q3.2) k186_23 rfl rfl ?_
      refine q_getI (w := 3) (pc' := 27) k186_24 rfl rfl rfl rfl ?_
      refine q_callI (ls0 := [vR 137, vI a1, vI (q3.2 137 3), vU, vU, vU]) (rest := []) (pc' := 30) rfl k186_27 rfl (hy4 rfl rfl rfl rfl) rfl rfl hq_182 rfl (fun q6 => ?_)
      refine q_s (pc' := 37) (ls' := [vR 137, vI a1]) (st' := [vI q6.1]) (g' := q6.2) k186_30 rfl rfl ?_
      exact q_e k186_37 rfl rfl rfl
  · refine q_s (pc' := 9) (ls' := [vR 137, vI a1]) (st' := [vR 137]) (g' := q1.2) k186_8 rfl rfl ?_
    refine q_callI (ls0 := [vR 137]) (rest := []) (pc' := 12) rfl k186_9 rfl (hy4 rfl rfl rfl rfl) rfl rfl hq_133 rfl (fun q7 => ?_)
    exact q_e k186_12 rfl rfl rfl
set_option maxHeartbeats 4000000 in
theorem jM_wantedTimes_eq (L : Nat) (a1 : Int) (a2 : Int) (g : AMem) : jM_wantedTimes L a1 a2 g = jM_wantedTimes_5 L a1 a2 0 0 g := by
  unfold jM_wantedTimes
  refine q_s (pc' := 1) (ls' := [vR 137, vI a1, vI a2, vU, vU]) (st' := [vI 0]) (g' := g) k187_0 rfl rfl ?_
  refine q_s (pc' := 2) (ls' := [vR 137, vI a1, vI a2, vI 0, vU]) (st' := []) (g' := g) k187_1 rfl rfl ?_
  refine q_s (pc' := 3) (ls' := [vR 137, vI a1, vI a2, vI 0, vU]) (st' := [vI 0]) (g' := g) k187_2 rfl rfl ?_
  refine q_s (pc' := 5) (ls' := [vR 137, vI a1, vI a2, vI 0, vI 0]) (st' := []) (g' := g) k187_3 rfl rfl ?_
  rfl
set_option maxHeartbeats 4000000 in
theorem jM_wantedTimes_5_eq (L : Nat) (l1 : Int) (l2 : Int) (l3 : Int) (l4 : Int) (g : AMem) : jM_wantedTimes_5 L l1 l2 l3 l4 g = (jM_manyOf L l1 g).bind (fun q1 => if q1.1 ≤ l4 then (some (l3, q1.2)) else (if 0 ≤ l4 ∧ l4 < 6 then (if q1.2 148 l4 = 0 then (jM_wantedTimes_5 L l1 l2 (iw (l3 + 0)) (iw (l4 + 1)) q1.2) else (if 0 ≤ l4 ∧ l4 < 6 then (if q1.2 149 l4 ≠ l2 then (jM_wantedTimes_5 L l1 l2 (iw (l3 + 0)) (iw (l4 + 1)) q1.2) else (jM_wantedTimes_5 L l1 l2 (iw (l3 + 1)) (iw (l4 + 1)) q1.2)) else none)) else none)) := by
  unfold jM_wantedTimes_5
  refine q_s (pc' := 7) (ls' := [vR 137, vI l1, vI l2, vI l3, vI l4]) (st' := [vI l4]) (g' := g) k187_5 rfl rfl ?_
  refine q_s (pc' := 8) (ls' := [vR 137, vI l1, vI l2, vI l3, vI l4]) (st' := [vR 137, vI l4]) (g' := g) k187_7 rfl rfl ?_
  refine q_s (pc' := 9) (ls' := [vR 137, vI l1, vI l2, vI l3, vI l4]) (st' := [vI l1, vR 137, vI l4]) (g' := g) k187_8 rfl rfl ?_
  refine q_callI (ls0 := [vR 137, vI l1]) (rest := [vI l4]) (pc' := 12) rfl k187_9 rfl (hy4 rfl rfl rfl rfl) rfl rfl hq_146 rfl (fun q1 => ?_)
  refine q_ic (P := q1.1 ≤ l4) (t := 50) (pc' := 15) k187_12 Iff.rfl rfl rfl (fun h2 => ?_) (fun h2 => ?_)
  · refine q_s (pc' := 51) (ls' := [vR 137, vI l1, vI l2, vI l3, vI l4]) (st' := [vI l3]) (g' := q1.2) k187_50 rfl rfl ?_
    exact q_e k187_51 rfl rfl rfl
  · refine q_s (pc' := 16) (ls' := [vR 137, vI l1, vI l2, vI l3, vI l4]) (st' := [vI l3]) (g' := q1.2) k187_15 rfl rfl ?_
    refine q_s (pc' := 17) (ls' := [vR 137, vI l1, vI l2, vI l3, vI l4]) (st' := [vR 137, vI l3]) (g' := q1.2) k187_16 rfl rfl ?_
    refine q_getF (r := 148) (pc' := 20) k187_17 rfl rfl rfl rfl ?_
    refine q_s (pc' := 22) (ls' := [vR 137, vI l1, vI l2, vI l3, vI l4]) (st' := [vI l4, vR 148, vI l3]) (g' := q1.2) k187_20 rfl rfl ?_
    refine q_bald (n := 6) (pc' := 23) rfl k187_22 rfl rfl (fun h3 => ?_)
    refine q_if (P := q1.2 148 l4 = 0) (t := 41) (pc' := 26) k187_23 Iff.rfl rfl rfl (fun h4 => ?_) (fun h4 => ?_)
    · refine q_s (pc' := 42) (ls' := [vR 137, vI l1, vI l2, vI l3, vI l4]) (st' := [vI 0, vI l3]) (g' := q1.2) k187_41 rfl rfl ?_
      refine q_s (pc' := 43) (ls' := [vR 137, vI l1, vI l2, vI l3, vI l4]) (st' := [vI (iw (l3 + 0))]) (g' := q1.2) k187_42 rfl rfl ?_
      refine q_s (pc' := 44) (ls' := [vR 137, vI l1, vI l2, vI (iw (l3 + 0)), vI l4]) (st' := []) (g' := q1.2) k187_43 rfl rfl ?_
      refine q_s (pc' := 47) (ls' := [vR 137, vI l1, vI l2, vI (iw (l3 + 0)), vI (iw (l4 + 1))]) (st' := []) (g' := q1.2) k187_44 rfl rfl ?_
      refine q_s (pc' := 5) (ls' := [vR 137, vI l1, vI l2, vI (iw (l3 + 0)), vI (iw (l4 + 1))]) (st' := []) (g' := q1.2) k187_47 rfl rfl ?_
      rfl
    · refine q_s (pc' := 27) (ls' := [vR 137, vI l1, vI l2, vI l3, vI l4]) (st' := [vR 137, vI l3]) (g' := q1.2) k187_26 rfl rfl ?_
      refine q_getF (r := 149) (pc' := 30) k187_27 rfl rfl rfl rfl ?_
      refine q_s (pc' := 32) (ls' := [vR 137, vI l1, vI l2, vI l3, vI l4]) (st' := [vI l4, vR 149, vI l3]) (g' := q1.2) k187_30 rfl rfl ?_
      refine q_iald (n := 6) (pc' := 33) rfl k187_32 rfl rfl (fun h5 => ?_)
      refine q_s (pc' := 34) (ls' := [vR 137, vI l1, vI l2, vI l3, vI l4]) (st' := [vI l2, vI (q1.2 149 l4), vI l3]) (g' := q1.2) k187_33 rfl rfl ?_
      refine q_ic (P := q1.2 149 l4 ≠ l2) (t := 41) (pc' := 37) k187_34 Iff.rfl rfl rfl (fun h6 => ?_) (fun h6 => ?_)
      · refine q_s (pc' := 42) (ls' := [vR 137, vI l1, vI l2, vI l3, vI l4]) (st' := [vI 0, vI l3]) (g' := q1.2) k187_41 rfl rfl ?_
        refine q_s (pc' := 43) (ls' := [vR 137, vI l1, vI l2, vI l3, vI l4]) (st' := [vI (iw (l3 + 0))]) (g' := q1.2) k187_42 rfl rfl ?_
        refine q_s (pc' := 44) (ls' := [vR 137, vI l1, vI l2, vI (iw (l3 + 0)), vI l4]) (st' := []) (g' := q1.2) k187_43 rfl rfl ?_
        refine q_s (pc' := 47) (ls' := [vR 137, vI l1, vI l2, vI (iw (l3 + 0)), vI (iw (l4 + 1))]) (st' := []) (g' := q1.2) k187_44 rfl rfl ?_
        refine q_s (pc' := 5) (ls' := [vR 137, vI l1, vI l2, vI (iw (l3 + 0)), vI (iw (l4 + 1))]) (st' := []) (g' := q1.2) k187_47 rfl rfl ?_
        rfl
      · refine q_s (pc' := 38) (ls' := [vR 137, vI l1, vI l2, vI l3, vI l4]) (st' := [vI 1, vI l3]) (g' := q1.2) k187_37 rfl rfl ?_
        refine q_s (pc' := 42) (ls' := [vR 137, vI l1, vI l2, vI l3, vI l4]) (st' := [vI 1, vI l3]) (g' := q1.2) k187_38 rfl rfl ?_
        refine q_s (pc' := 43) (ls' := [vR 137, vI l1, vI l2, vI l3, vI l4]) (st' := [vI (iw (l3 + 1))]) (g' := q1.2) k187_42 rfl rfl ?_
        refine q_s (pc' := 44) (ls' := [vR 137, vI l1, vI l2, vI (iw (l3 + 1)), vI l4]) (st' := []) (g' := q1.2) k187_43 rfl rfl ?_
        refine q_s (pc' := 47) (ls' := [vR 137, vI l1, vI l2, vI (iw (l3 + 1)), vI (iw (l4 + 1))]) (st' := []) (g' := q1.2) k187_44 rfl rfl ?_
        refine q_s (pc' := 5) (ls' := [vR 137, vI l1, vI l2, vI (iw (l3 + 1)), vI (iw (l4 + 1))]) (st' := []) (g' := q1.2) k187_47 rfl rfl ?_
        rfl
set_option maxHeartbeats 4000000 in
theorem jM_ringOf_eq (L : Nat) (a1 : Int) (a2 : Int) (g : AMem) : jM_ringOf L a1 a2 g = jM_ringOf_8 L a1 a2 a2 0 1 vU g := by
  unfold jM_ringOf
  refine q_s (pc' := 1) (ls' := [vR 137, vI a1, vI a2, vU, vU, vU, vU]) (st' := [vI a2]) (g' := g) k188_0 rfl rfl ?_
  refine q_s (pc' := 2) (ls' := [vR 137, vI a1, vI a2, vI a2, vU, vU, vU]) (st' := []) (g' := g) k188_1 rfl rfl ?_
  refine q_s (pc' := 3) (ls' := [vR 137, vI a1, vI a2, vI a2, vU, vU, vU]) (st' := [vI 0]) (g' := g) k188_2 rfl rfl ?_
  refine q_s (pc' := 5) (ls' := [vR 137, vI a1, vI a2, vI a2, vI 0, vU, vU]) (st' := []) (g' := g) k188_3 rfl rfl ?_
  refine q_s (pc' := 6) (ls' := [vR 137, vI a1, vI a2, vI a2, vI 0, vU, vU]) (st' := [vI 1]) (g' := g) k188_5 rfl rfl ?_
  refine q_s (pc' := 8) (ls' := [vR 137, vI a1, vI a2, vI a2, vI 0, vI 1, vU]) (st' := []) (g' := g) k188_6 rfl rfl ?_
  rfl
set_option maxHeartbeats 4000000 in
theorem jM_ringOf_8_eq (L : Nat) (l1 : Int) (l2 : Int) (l3 : Int) (l4 : Int) (l5 : Int) (w6 : AVal) (g : AMem) : jM_ringOf_8 L l1 l2 l3 l4 l5 w6 g = if l5 = 0 then (if l5 = 0 then (some (0, g)) else (if l3 ≠ l2 then (some (0, g)) else (some (l4, g)))) else (if l4 = 0 then (if 6 < l4 then (if l5 = 0 then (some (0, g)) else (if l3 ≠ l2 then (some (0, g)) else (some (l4, g)))) else (if 0 ≤ l3 ∧ l3 < 6 then (if g 148 l3 = 0 then (jM_ringOf_8 L l1 l2 l3 (iw (l4 + 1)) 0 (vI (-201)) g) else ((jM_parameterOf L l1 l3 g).bind (fun q10 => (jM_wantedTimes L l1 q10.1 q10.2).bind (fun q11 => if q11.1 ≠ 1 then (jM_ringOf_8 L l1 l2 l3 (iw (l4 + 1)) 0 (vI (-201)) q11.2) else (if 0 ≤ l3 ∧ l3 < 6 then ((jM_whoHas L l1 (q11.2 149 l3) q11.2).bind (fun q14 => if q14.1 = (-201) then (jM_ringOf_8 L l1 l2 l3 (iw (l4 + 1)) 0 (vI q14.1) q14.2) else (jM_ringOf_8 L l1 l2 q14.1 (iw (l4 + 1)) 1 (vI q14.1) q14.2))) else none))))) else none)) else (if l3 = l2 then (if l5 = 0 then (some (0, g)) else (if l3 ≠ l2 then (some (0, g)) else (some (l4, g)))) else (if 6 < l4 then (if l5 = 0 then (some (0, g)) else (if l3 ≠ l2 then (some (0, g)) else (some (l4, g)))) else (if 0 ≤ l3 ∧ l3 < 6 then (if g 148 l3 = 0 then (jM_ringOf_8 L l1 l2 l3 (iw (l4 + 1)) 0 (vI (-201)) g) else ((jM_parameterOf L l1 l3 g).bind (fun q24 => (jM_wantedTimes L l1 q24.1 q24.2).bind (fun q25 => if q25.1 ≠ 1 then (jM_ringOf_8 L l1 l2 l3 (iw (l4 + 1)) 0 (vI (-201)) q25.2) else (if 0 ≤ l3 ∧ l3 < 6 then ((jM_whoHas L l1 (q25.2 149 l3) q25.2).bind (fun q28 => if q28.1 = (-201) then (jM_ringOf_8 L l1 l2 l3 (iw (l4 + 1)) 0 (vI q28.1) q28.2) else (jM_ringOf_8 L l1 l2 q28.1 (iw (l4 + 1)) 1 (vI q28.1) q28.2))) else none))))) else none)))) := by
  unfold jM_ringOf_8
  refine q_s (pc' := 10) (ls' := [vR 137, vI l1, vI l2, vI l3, vI l4, vI l5, w6]) (st' := [vI l5]) (g' := g) k188_8 rfl rfl ?_
  refine q_if (P := l5 = 0) (t := 118) (pc' := 13) k188_10 Iff.rfl rfl rfl (fun h1 => ?_) (fun h1 => ?_)
  · refine q_s (pc' := 120) (ls' := [vR 137, vI l1, vI l2, vI l3, vI l4, vI l5, w6]) (st' := [vI l5]) (g' := g) k188_118 rfl rfl ?_
    refine q_if (P := l5 = 0) (t := 133) (pc' := 123) k188_120 Iff.rfl rfl rfl (fun h2 => ?_) (fun h2 => ?_)
    · refine q_s (pc' := 134) (ls' := [vR 137, vI l1, vI l2, vI l3, vI l4, vI l5, w6]) (st' := [vI 0]) (g' := g) k188_133 rfl rfl ?_
      exact q_e k188_134 rfl rfl rfl
    · refine q_s (pc' := 124) (ls' := [vR 137, vI l1, vI l2, vI l3, vI l4, vI l5, w6]) (st' := [vI l3]) (g' := g) k188_123 rfl rfl ?_
      refine q_s (pc' := 125) (ls' := [vR 137, vI l1, vI l2, vI l3, vI l4, vI l5, w6]) (st' := [vI l2, vI l3]) (g' := g) k188_124 rfl rfl ?_
      refine q_ic (P := l3 ≠ l2) (t := 133) (pc' := 128) k188_125 Iff.rfl rfl rfl (fun h3 => ?_) (fun h3 => ?_)
      · refine q_s (pc' := 134) (ls' := [vR 137, vI l1, vI l2, vI l3, vI l4, vI l5, w6]) (st' := [vI 0]) (g' := g) k188_133 rfl rfl ?_
        exact q_e k188_134 rfl rfl rfl
      · refine q_s (pc' := 130) (ls' := [vR 137, vI l1, vI l2, vI l3, vI l4, vI l5, w6]) (st' := [vI l4]) (g' := g) k188_128 rfl rfl ?_
        refine q_s (pc' := 134) (ls' := [vR 137, vI l1, vI l2, vI l3, vI l4, vI l5, w6]) (st' := [vI l4]) (g' := g) k188_130 rfl rfl ?_
        exact q_e k188_134 rfl rfl rfl
  · refine q_s (pc' := 15) (ls' := [vR 137, vI l1, vI l2, vI l3, vI l4, vI l5, w6]) (st' := [vI l4]) (g' := g) k188_13 rfl rfl ?_
    refine q_if (P := l4 = 0) (t := 23) (pc' := 18) k188_15 Iff.rfl rfl rfl (fun h4 => ?_) (fun h4 => ?_)
    · refine q_s (pc' := 25) (ls' := [vR 137, vI l1, vI l2, vI l3, vI l4, vI l5, w6]) (st' := [vI l4]) (g' := g) k188_23 rfl rfl ?_
      refine q_s (pc' := 27) (ls' := [vR 137, vI l1, vI l2, vI l3, vI l4, vI l5, w6]) (st' := [vI 6, vI l4]) (g' := g) k188_25 rfl rfl ?_
      refine q_ic (P := 6 < l4) (t := 118) (pc' := 30) k188_27 Iff.rfl rfl rfl (fun h5 => ?_) (fun h5 => ?_)
      · refine q_s (pc' := 120) (ls' := [vR 137, vI l1, vI l2, vI l3, vI l4, vI l5, w6]) (st' := [vI l5]) (g' := g) k188_118 rfl rfl ?_
        refine q_if (P := l5 = 0) (t := 133) (pc' := 123) k188_120 Iff.rfl rfl rfl (fun h6 => ?_) (fun h6 => ?_)
        · refine q_s (pc' := 134) (ls' := [vR 137, vI l1, vI l2, vI l3, vI l4, vI l5, w6]) (st' := [vI 0]) (g' := g) k188_133 rfl rfl ?_
          exact q_e k188_134 rfl rfl rfl
        · refine q_s (pc' := 124) (ls' := [vR 137, vI l1, vI l2, vI l3, vI l4, vI l5, w6]) (st' := [vI l3]) (g' := g) k188_123 rfl rfl ?_
          refine q_s (pc' := 125) (ls' := [vR 137, vI l1, vI l2, vI l3, vI l4, vI l5, w6]) (st' := [vI l2, vI l3]) (g' := g) k188_124 rfl rfl ?_
          refine q_ic (P := l3 ≠ l2) (t := 133) (pc' := 128) k188_125 Iff.rfl rfl rfl (fun h7 => ?_) (fun h7 => ?_)
          · refine q_s (pc' := 134) (ls' := [vR 137, vI l1, vI l2, vI l3, vI l4, vI l5, w6]) (st' := [vI 0]) (g' := g) k188_133 rfl rfl ?_
            exact q_e k188_134 rfl rfl rfl
          · refine q_s (pc' := 130) (ls' := [vR 137, vI l1, vI l2, vI l3, vI l4, vI l5, w6]) (st' := [vI l4]) (g' := g) k188_128 rfl rfl ?_
            refine q_s (pc' := 134) (ls' := [vR 137, vI l1, vI l2, vI l3, vI l4, vI l5, w6]) (st' := [vI l4]) (g' := g) k188_130 rfl rfl ?_
            exact q_e k188_134 rfl rfl rfl
      · refine q_s (pc' := 31) (ls' := [vR 137, vI l1, vI l2, vI l3, vI l4, vI l5, w6]) (st' := [vR 137]) (g' := g) k188_30 rfl rfl ?_
        refine q_getF (r := 148) (pc' := 34) k188_31 rfl rfl rfl rfl ?_
        refine q_s (pc' := 35) (ls' := [vR 137, vI l1, vI l2, vI l3, vI l4, vI l5, w6]) (st' := [vI l3, vR 148]) (g' := g) k188_34 rfl rfl ?_
        refine q_bald (n := 6) (pc' := 36) rfl k188_35 rfl rfl (fun h8 => ?_)
        refine q_if (P := g 148 l3 = 0) (t := 58) (pc' := 39) k188_36 Iff.rfl rfl rfl (fun h9 => ?_) (fun h9 => ?_)
        · refine q_s (pc' := 59) (ls' := [vR 137, vI l1, vI l2, vI l3, vI l4, vI l5, w6]) (st' := [vI 0]) (g' := g) k188_58 rfl rfl ?_
          refine q_s (pc' := 61) (ls' := [vR 137, vI l1, vI l2, vI l3, vI l4, vI 0, w6]) (st' := []) (g' := g) k188_59 rfl rfl ?_
          refine q_s (pc' := 64) (ls' := [vR 137, vI l1, vI l2, vI l3, vI (iw (l4 + 1)), vI 0, w6]) (st' := []) (g' := g) k188_61 rfl rfl ?_
          refine q_s (pc' := 66) (ls' := [vR 137, vI l1, vI l2, vI l3, vI (iw (l4 + 1)), vI 0, w6]) (st' := [vI 0]) (g' := g) k188_64 rfl rfl ?_
          refine q_s (pc' := 83) (ls' := [vR 137, vI l1, vI l2, vI l3, vI (iw (l4 + 1)), vI 0, w6]) (st' := []) (g' := g) k188_66 rfl rfl ?_
          refine q_s (pc' := 86) (ls' := [vR 137, vI l1, vI l2, vI l3, vI (iw (l4 + 1)), vI 0, w6]) (st' := [vI (-201)]) (g' := g) k188_83 rfl rfl ?_
          refine q_s (pc' := 88) (ls' := [vR 137, vI l1, vI l2, vI l3, vI (iw (l4 + 1)), vI 0, vI (-201)]) (st' := []) (g' := g) k188_86 rfl rfl ?_
          refine q_s (pc' := 90) (ls' := [vR 137, vI l1, vI l2, vI l3, vI (iw (l4 + 1)), vI 0, vI (-201)]) (st' := [vI (-201)]) (g' := g) k188_88 rfl rfl ?_
          refine q_s (pc' := 93) (ls' := [vR 137, vI l1, vI l2, vI l3, vI (iw (l4 + 1)), vI 0, vI (-201)]) (st' := [vI (-201), vI (-201)]) (g' := g) k188_90 rfl rfl ?_
          refine q_s (pc' := 100) (ls' := [vR 137, vI l1, vI l2, vI l3, vI (iw (l4 + 1)), vI 0, vI (-201)]) (st' := []) (g' := g) k188_93 rfl rfl ?_
          refine q_s (pc' := 101) (ls' := [vR 137, vI l1, vI l2, vI l3, vI (iw (l4 + 1)), vI 0, vI (-201)]) (st' := [vI 0]) (g' := g) k188_100 rfl rfl ?_
          refine q_s (pc' := 103) (ls' := [vR 137, vI l1, vI l2, vI l3, vI (iw (l4 + 1)), vI 0, vI (-201)]) (st' := []) (g' := g) k188_101 rfl rfl ?_
          refine q_s (pc' := 105) (ls' := [vR 137, vI l1, vI l2, vI l3, vI (iw (l4 + 1)), vI 0, vI (-201)]) (st' := [vI 0]) (g' := g) k188_103 rfl rfl ?_
          refine q_s (pc' := 113) (ls' := [vR 137, vI l1, vI l2, vI l3, vI (iw (l4 + 1)), vI 0, vI (-201)]) (st' := []) (g' := g) k188_105 rfl rfl ?_
          refine q_s (pc' := 114) (ls' := [vR 137, vI l1, vI l2, vI l3, vI (iw (l4 + 1)), vI 0, vI (-201)]) (st' := [vI l3]) (g' := g) k188_113 rfl rfl ?_
          refine q_s (pc' := 115) (ls' := [vR 137, vI l1, vI l2, vI l3, vI (iw (l4 + 1)), vI 0, vI (-201)]) (st' := []) (g' := g) k188_114 rfl rfl ?_
          refine q_s (pc' := 8) (ls' := [vR 137, vI l1, vI l2, vI l3, vI (iw (l4 + 1)), vI 0, vI (-201)]) (st' := []) (g' := g) k188_115 rfl rfl ?_
          rfl
        · refine q_s (pc' := 40) (ls' := [vR 137, vI l1, vI l2, vI l3, vI l4, vI l5, w6]) (st' := [vR 137]) (g' := g) k188_39 rfl rfl ?_
          refine q_s (pc' := 41) (ls' := [vR 137, vI l1, vI l2, vI l3, vI l4, vI l5, w6]) (st' := [vI l1, vR 137]) (g' := g) k188_40 rfl rfl ?_
          refine q_s (pc' := 42) (ls' := [vR 137, vI l1, vI l2, vI l3, vI l4, vI l5, w6]) (st' := [vR 137, vI l1, vR 137]) (g' := g) k188_41 rfl rfl ?_
          refine q_s (pc' := 43) (ls' := [vR 137, vI l1, vI l2, vI l3, vI l4, vI l5, w6]) (st' := [vI l1, vR 137, vI l1, vR 137]) (g' := g) k188_42 rfl rfl ?_
          refine q_s (pc' := 44) (ls' := [vR 137, vI l1, vI l2, vI l3, vI l4, vI l5, w6]) (st' := [vI l3, vI l1, vR 137, vI l1, vR 137]) (g' := g) k188_43 rfl rfl ?_
          refine q_callI (ls0 := [vR 137, vI l1, vI l3]) (rest := [vI l1, vR 137]) (pc' := 47) rfl k188_44 rfl (hy4 rfl rfl rfl rfl) rfl rfl hq_145 rfl (fun q10 => ?_)
          refine q_callI (ls0 := [vR 137, vI l1, vI q10.1, vU, vU]) (rest := []) (pc' := 50) rfl k188_47 rfl (hy4 rfl rfl rfl rfl) rfl rfl hq_187 rfl (fun q11 => ?_)
          refine q_s (pc' := 51) (ls' := [vR 137, vI l1, vI l2, vI l3, vI l4, vI l5, w6]) (st' := [vI 1, vI q11.1]) (g' := q11.2) k188_50 rfl rfl ?_
          refine q_ic (P := q11.1 ≠ 1) (t := 58) (pc' := 54) k188_51 Iff.rfl rfl rfl (fun h12 => ?_) (fun h12 => ?_)
          · refine q_s (pc' := 59) (ls' := [vR 137, vI l1, vI l2, vI l3, vI l4, vI l5, w6]) (st' := [vI 0]) (g' := q11.2) k188_58 rfl rfl ?_
            refine q_s (pc' := 61) (ls' := [vR 137, vI l1, vI l2, vI l3, vI l4, vI 0, w6]) (st' := []) (g' := q11.2) k188_59 rfl rfl ?_
            refine q_s (pc' := 64) (ls' := [vR 137, vI l1, vI l2, vI l3, vI (iw (l4 + 1)), vI 0, w6]) (st' := []) (g' := q11.2) k188_61 rfl rfl ?_
            refine q_s (pc' := 66) (ls' := [vR 137, vI l1, vI l2, vI l3, vI (iw (l4 + 1)), vI 0, w6]) (st' := [vI 0]) (g' := q11.2) k188_64 rfl rfl ?_
            refine q_s (pc' := 83) (ls' := [vR 137, vI l1, vI l2, vI l3, vI (iw (l4 + 1)), vI 0, w6]) (st' := []) (g' := q11.2) k188_66 rfl rfl ?_
            refine q_s (pc' := 86) (ls' := [vR 137, vI l1, vI l2, vI l3, vI (iw (l4 + 1)), vI 0, w6]) (st' := [vI (-201)]) (g' := q11.2) k188_83 rfl rfl ?_
            refine q_s (pc' := 88) (ls' := [vR 137, vI l1, vI l2, vI l3, vI (iw (l4 + 1)), vI 0, vI (-201)]) (st' := []) (g' := q11.2) k188_86 rfl rfl ?_
            refine q_s (pc' := 90) (ls' := [vR 137, vI l1, vI l2, vI l3, vI (iw (l4 + 1)), vI 0, vI (-201)]) (st' := [vI (-201)]) (g' := q11.2) k188_88 rfl rfl ?_
            refine q_s (pc' := 93) (ls' := [vR 137, vI l1, vI l2, vI l3, vI (iw (l4 + 1)), vI 0, vI (-201)]) (st' := [vI (-201), vI (-201)]) (g' := q11.2) k188_90 rfl rfl ?_
            refine q_s (pc' := 100) (ls' := [vR 137, vI l1, vI l2, vI l3, vI (iw (l4 + 1)), vI 0, vI (-201)]) (st' := []) (g' := q11.2) k188_93 rfl rfl ?_
            refine q_s (pc' := 101) (ls' := [vR 137, vI l1, vI l2, vI l3, vI (iw (l4 + 1)), vI 0, vI (-201)]) (st' := [vI 0]) (g' := q11.2) k188_100 rfl rfl ?_
            refine q_s (pc' := 103) (ls' := [vR 137, vI l1, vI l2, vI l3, vI (iw (l4 + 1)), vI 0, vI (-201)]) (st' := []) (g' := q11.2) k188_101 rfl rfl ?_
            refine q_s (pc' := 105) (ls' := [vR 137, vI l1, vI l2, vI l3, vI (iw (l4 + 1)), vI 0, vI (-201)]) (st' := [vI 0]) (g' := q11.2) k188_103 rfl rfl ?_
            refine q_s (pc' := 113) (ls' := [vR 137, vI l1, vI l2, vI l3, vI (iw (l4 + 1)), vI 0, vI (-201)]) (st' := []) (g' := q11.2) k188_105 rfl rfl ?_
            refine q_s (pc' := 114) (ls' := [vR 137, vI l1, vI l2, vI l3, vI (iw (l4 + 1)), vI 0, vI (-201)]) (st' := [vI l3]) (g' := q11.2) k188_113 rfl rfl ?_
            refine q_s (pc' := 115) (ls' := [vR 137, vI l1, vI l2, vI l3, vI (iw (l4 + 1)), vI 0, vI (-201)]) (st' := []) (g' := q11.2) k188_114 rfl rfl ?_
            refine q_s (pc' := 8) (ls' := [vR 137, vI l1, vI l2, vI l3, vI (iw (l4 + 1)), vI 0, vI (-201)]) (st' := []) (g' := q11.2) k188_115 rfl rfl ?_
            rfl
          · refine q_s (pc' := 55) (ls' := [vR 137, vI l1, vI l2, vI l3, vI l4, vI l5, w6]) (st' := [vI 1]) (g' := q11.2) k188_54 rfl rfl ?_
            refine q_s (pc' := 59) (ls' := [vR 137, vI l1, vI l2, vI l3, vI l4, vI l5, w6]) (st' := [vI 1]) (g' := q11.2) k188_55 rfl rfl ?_
            refine q_s (pc' := 61) (ls' := [vR 137, vI l1, vI l2, vI l3, vI l4, vI 1, w6]) (st' := []) (g' := q11.2) k188_59 rfl rfl ?_
            refine q_s (pc' := 64) (ls' := [vR 137, vI l1, vI l2, vI l3, vI (iw (l4 + 1)), vI 1, w6]) (st' := []) (g' := q11.2) k188_61 rfl rfl ?_
            refine q_s (pc' := 66) (ls' := [vR 137, vI l1, vI l2, vI l3, vI (iw (l4 + 1)), vI 1, w6]) (st' := [vI 1]) (g' := q11.2) k188_64 rfl rfl ?_
            refine q_s (pc' := 69) (ls' := [vR 137, vI l1, vI l2, vI l3, vI (iw (l4 + 1)), vI 1, w6]) (st' := []) (g' := q11.2) k188_66 rfl rfl ?_
            refine q_s (pc' := 70) (ls' := [vR 137, vI l1, vI l2, vI l3, vI (iw (l4 + 1)), vI 1, w6]) (st' := [vR 137]) (g' := q11.2) k188_69 rfl rfl ?_
            refine q_s (pc' := 71) (ls' := [vR 137, vI l1, vI l2, vI l3, vI (iw (l4 + 1)), vI 1, w6]) (st' := [vI l1, vR 137]) (g' := q11.2) k188_70 rfl rfl ?_
            refine q_s (pc' := 72) (ls' := [vR 137, vI l1, vI l2, vI l3, vI (iw (l4 + 1)), vI 1, w6]) (st' := [vR 137, vI l1, vR 137]) (g' := q11.2) k188_71 rfl rfl ?_
            refine q_getF (r := 149) (pc' := 75) k188_72 rfl rfl rfl rfl ?_
            refine q_s (pc' := 76) (ls' := [vR 137, vI l1, vI l2, vI l3, vI (iw (l4 + 1)), vI 1, w6]) (st' := [vI l3, vR 149, vI l1, vR 137]) (g' := q11.2) k188_75 rfl rfl ?_
            refine q_iald (n := 6) (pc' := 77) rfl k188_76 rfl rfl (fun h13 => ?_)
            refine q_callI (ls0 := [vR 137, vI l1, vI (q11.2 149 l3), vU, vU]) (rest := []) (pc' := 80) rfl k188_77 rfl (hy4 rfl rfl rfl rfl) rfl rfl hq_176 rfl (fun q14 => ?_)
            refine q_s (pc' := 86) (ls' := [vR 137, vI l1, vI l2, vI l3, vI (iw (l4 + 1)), vI 1, w6]) (st' := [vI q14.1]) (g' := q14.2) k188_80 rfl rfl ?_
            refine q_s (pc' := 88) (ls' := [vR 137, vI l1, vI l2, vI l3, vI (iw (l4 + 1)), vI 1, vI q14.1]) (st' := []) (g' := q14.2) k188_86 rfl rfl ?_
            refine q_s (pc' := 90) (ls' := [vR 137, vI l1, vI l2, vI l3, vI (iw (l4 + 1)), vI 1, vI q14.1]) (st' := [vI q14.1]) (g' := q14.2) k188_88 rfl rfl ?_
            refine q_s (pc' := 93) (ls' := [vR 137, vI l1, vI l2, vI l3, vI (iw (l4 + 1)), vI 1, vI q14.1]) (st' := [vI (-201), vI q14.1]) (g' := q14.2) k188_90 rfl rfl ?_
            refine q_ic (P := q14.1 = (-201)) (t := 100) (pc' := 96) k188_93 Iff.rfl rfl rfl (fun h15 => ?_) (fun h15 => ?_)
            · refine q_s (pc' := 101) (ls' := [vR 137, vI l1, vI l2, vI l3, vI (iw (l4 + 1)), vI 1, vI q14.1]) (st' := [vI 0]) (g' := q14.2) k188_100 rfl rfl ?_
              refine q_s (pc' := 103) (ls' := [vR 137, vI l1, vI l2, vI l3, vI (iw (l4 + 1)), vI 0, vI q14.1]) (st' := []) (g' := q14.2) k188_101 rfl rfl ?_
              refine q_s (pc' := 105) (ls' := [vR 137, vI l1, vI l2, vI l3, vI (iw (l4 + 1)), vI 0, vI q14.1]) (st' := [vI 0]) (g' := q14.2) k188_103 rfl rfl ?_
              refine q_s (pc' := 113) (ls' := [vR 137, vI l1, vI l2, vI l3, vI (iw (l4 + 1)), vI 0, vI q14.1]) (st' := []) (g' := q14.2) k188_105 rfl rfl ?_
              refine q_s (pc' := 114) (ls' := [vR 137, vI l1, vI l2, vI l3, vI (iw (l4 + 1)), vI 0, vI q14.1]) (st' := [vI l3]) (g' := q14.2) k188_113 rfl rfl ?_
              refine q_s (pc' := 115) (ls' := [vR 137, vI l1, vI l2, vI l3, vI (iw (l4 + 1)), vI 0, vI q14.1]) (st' := []) (g' := q14.2) k188_114 rfl rfl ?_
              refine q_s (pc' := 8) (ls' := [vR 137, vI l1, vI l2, vI l3, vI (iw (l4 + 1)), vI 0, vI q14.1]) (st' := []) (g' := q14.2) k188_115 rfl rfl ?_
              rfl
            · refine q_s (pc' := 97) (ls' := [vR 137, vI l1, vI l2, vI l3, vI (iw (l4 + 1)), vI 1, vI q14.1]) (st' := [vI 1]) (g' := q14.2) k188_96 rfl rfl ?_
              refine q_s (pc' := 101) (ls' := [vR 137, vI l1, vI l2, vI l3, vI (iw (l4 + 1)), vI 1, vI q14.1]) (st' := [vI 1]) (g' := q14.2) k188_97 rfl rfl ?_
              refine q_s (pc' := 103) (ls' := [vR 137, vI l1, vI l2, vI l3, vI (iw (l4 + 1)), vI 1, vI q14.1]) (st' := []) (g' := q14.2) k188_101 rfl rfl ?_
              refine q_s (pc' := 105) (ls' := [vR 137, vI l1, vI l2, vI l3, vI (iw (l4 + 1)), vI 1, vI q14.1]) (st' := [vI 1]) (g' := q14.2) k188_103 rfl rfl ?_
              refine q_s (pc' := 108) (ls' := [vR 137, vI l1, vI l2, vI l3, vI (iw (l4 + 1)), vI 1, vI q14.1]) (st' := []) (g' := q14.2) k188_105 rfl rfl ?_
              refine q_s (pc' := 110) (ls' := [vR 137, vI l1, vI l2, vI l3, vI (iw (l4 + 1)), vI 1, vI q14.1]) (st' := [vI q14.1]) (g' := q14.2) k188_108 rfl rfl ?_
              refine q_s (pc' := 114) (ls' := [vR 137, vI l1, vI l2, vI l3, vI (iw (l4 + 1)), vI 1, vI q14.1]) (st' := [vI q14.1]) (g' := q14.2) k188_110 rfl rfl ?_
              refine q_s (pc' := 115) (ls' := [vR 137, vI l1, vI l2, vI q14.1, vI (iw (l4 + 1)), vI 1, vI q14.1]) (st' := []) (g' := q14.2) k188_114 rfl rfl ?_
              refine q_s (pc' := 8) (ls' := [vR 137, vI l1, vI l2, vI q14.1, vI (iw (l4 + 1)), vI 1, vI q14.1]) (st' := []) (g' := q14.2) k188_115 rfl rfl ?_
              rfl
    · refine q_s (pc' := 19) (ls' := [vR 137, vI l1, vI l2, vI l3, vI l4, vI l5, w6]) (st' := [vI l3]) (g' := g) k188_18 rfl rfl ?_
      refine q_s (pc' := 20) (ls' := [vR 137, vI l1, vI l2, vI l3, vI l4, vI l5, w6]) (st' := [vI l2, vI l3]) (g' := g) k188_19 rfl rfl ?_
      refine q_ic (P := l3 = l2) (t := 118) (pc' := 23) k188_20 Iff.rfl rfl rfl (fun h16 => ?_) (fun h16 => ?_)
      · refine q_s (pc' := 120) (ls' := [vR 137, vI l1, vI l2, vI l3, vI l4, vI l5, w6]) (st' := [vI l5]) (g' := g) k188_118 rfl rfl ?_
        refine q_if (P := l5 = 0) (t := 133) (pc' := 123) k188_120 Iff.rfl rfl rfl (fun h17 => ?_) (fun h17 => ?_)
        · refine q_s (pc' := 134) (ls' := [vR 137, vI l1, vI l2, vI l3, vI l4, vI l5, w6]) (st' := [vI 0]) (g' := g) k188_133 rfl rfl ?_
          exact q_e k188_134 rfl rfl rfl
        · refine q_s (pc' := 124) (ls' := [vR 137, vI l1, vI l2, vI l3, vI l4, vI l5, w6]) (st' := [vI l3]) (g' := g) k188_123 rfl rfl ?_
          refine q_s (pc' := 125) (ls' := [vR 137, vI l1, vI l2, vI l3, vI l4, vI l5, w6]) (st' := [vI l2, vI l3]) (g' := g) k188_124 rfl rfl ?_
          refine q_ic (P := l3 ≠ l2) (t := 133) (pc' := 128) k188_125 Iff.rfl rfl rfl (fun h18 => ?_) (fun h18 => ?_)
          · refine q_s (pc' := 134) (ls' := [vR 137, vI l1, vI l2, vI l3, vI l4, vI l5, w6]) (st' := [vI 0]) (g' := g) k188_133 rfl rfl ?_
            exact q_e k188_134 rfl rfl rfl
          · refine q_s (pc' := 130) (ls' := [vR 137, vI l1, vI l2, vI l3, vI l4, vI l5, w6]) (st' := [vI l4]) (g' := g) k188_128 rfl rfl ?_
            refine q_s (pc' := 134) (ls' := [vR 137, vI l1, vI l2, vI l3, vI l4, vI l5, w6]) (st' := [vI l4]) (g' := g) k188_130 rfl rfl ?_
            exact q_e k188_134 rfl rfl rfl
      · refine q_s (pc' := 25) (ls' := [vR 137, vI l1, vI l2, vI l3, vI l4, vI l5, w6]) (st' := [vI l4]) (g' := g) k188_23 rfl rfl ?_
        refine q_s (pc' := 27) (ls' := [vR 137, vI l1, vI l2, vI l3, vI l4, vI l5, w6]) (st' := [vI 6, vI l4]) (g' := g) k188_25 rfl rfl ?_
        refine q_ic (P := 6 < l4) (t := 118) (pc' := 30) k188_27 Iff.rfl rfl rfl (fun h19 => ?_) (fun h19 => ?_)
        · refine q_s (pc' := 120) (ls' := [vR 137, vI l1, vI l2, vI l3, vI l4, vI l5, w6]) (st' := [vI l5]) (g' := g) k188_118 rfl rfl ?_
          refine q_if (P := l5 = 0) (t := 133) (pc' := 123) k188_120 Iff.rfl rfl rfl (fun h20 => ?_) (fun h20 => ?_)
          · refine q_s (pc' := 134) (ls' := [vR 137, vI l1, vI l2, vI l3, vI l4, vI l5, w6]) (st' := [vI 0]) (g' := g) k188_133 rfl rfl ?_
            exact q_e k188_134 rfl rfl rfl
          · refine q_s (pc' := 124) (ls' := [vR 137, vI l1, vI l2, vI l3, vI l4, vI l5, w6]) (st' := [vI l3]) (g' := g) k188_123 rfl rfl ?_
            refine q_s (pc' := 125) (ls' := [vR 137, vI l1, vI l2, vI l3, vI l4, vI l5, w6]) (st' := [vI l2, vI l3]) (g' := g) k188_124 rfl rfl ?_
            refine q_ic (P := l3 ≠ l2) (t := 133) (pc' := 128) k188_125 Iff.rfl rfl rfl (fun h21 => ?_) (fun h21 => ?_)
            · refine q_s (pc' := 134) (ls' := [vR 137, vI l1, vI l2, vI l3, vI l4, vI l5, w6]) (st' := [vI 0]) (g' := g) k188_133 rfl rfl ?_
              exact q_e k188_134 rfl rfl rfl
            · refine q_s (pc' := 130) (ls' := [vR 137, vI l1, vI l2, vI l3, vI l4, vI l5, w6]) (st' := [vI l4]) (g' := g) k188_128 rfl rfl ?_
              refine q_s (pc' := 134) (ls' := [vR 137, vI l1, vI l2, vI l3, vI l4, vI l5, w6]) (st' := [vI l4]) (g' := g) k188_130 rfl rfl ?_
              exact q_e k188_134 rfl rfl rfl
        · refine q_s (pc' := 31) (ls' := [vR 137, vI l1, vI l2, vI l3, vI l4, vI l5, w6]) (st' := [vR 137]) (g' := g) k188_30 rfl rfl ?_
          refine q_getF (r := 148) (pc' := 34) k188_31 rfl rfl rfl rfl ?_
          refine q_s (pc' := 35) (ls' := [vR 137, vI l1, vI l2, vI l3, vI l4, vI l5, w6]) (st' := [vI l3, vR 148]) (g' := g) k188_34 rfl rfl ?_
          refine q_bald (n := 6) (pc' := 36) rfl k188_35 rfl rfl (fun h22 => ?_)
          refine q_if (P := g 148 l3 = 0) (t := 58) (pc' := 39) k188_36 Iff.rfl rfl rfl (fun h23 => ?_) (fun h23 => ?_)
          · refine q_s (pc' := 59) (ls' := [vR 137, vI l1, vI l2, vI l3, vI l4, vI l5, w6]) (st' := [vI 0]) (g' := g) k188_58 rfl rfl ?_
            refine q_s (pc' := 61) (ls' := [vR 137, vI l1, vI l2, vI l3, vI l4, vI 0, w6]) (st' := []) (g' := g) k188_59 rfl rfl ?_
            refine q_s (pc' := 64) (ls' := [vR 137, vI l1, vI l2, vI l3, vI (iw (l4 + 1)), vI 0, w6]) (st' := []) (g' := g) k188_61 rfl rfl ?_
            refine q_s (pc' := 66) (ls' := [vR 137, vI l1, vI l2, vI l3, vI (iw (l4 + 1)), vI 0, w6]) (st' := [vI 0]) (g' := g) k188_64 rfl rfl ?_
            refine q_s (pc' := 83) (ls' := [vR 137, vI l1, vI l2, vI l3, vI (iw (l4 + 1)), vI 0, w6]) (st' := []) (g' := g) k188_66 rfl rfl ?_
            refine q_s (pc' := 86) (ls' := [vR 137, vI l1, vI l2, vI l3, vI (iw (l4 + 1)), vI 0, w6]) (st' := [vI (-201)]) (g' := g) k188_83 rfl rfl ?_
            refine q_s (pc' := 88) (ls' := [vR 137, vI l1, vI l2, vI l3, vI (iw (l4 + 1)), vI 0, vI (-201)]) (st' := []) (g' := g) k188_86 rfl rfl ?_
            refine q_s (pc' := 90) (ls' := [vR 137, vI l1, vI l2, vI l3, vI (iw (l4 + 1)), vI 0, vI (-201)]) (st' := [vI (-201)]) (g' := g) k188_88 rfl rfl ?_
            refine q_s (pc' := 93) (ls' := [vR 137, vI l1, vI l2, vI l3, vI (iw (l4 + 1)), vI 0, vI (-201)]) (st' := [vI (-201), vI (-201)]) (g' := g) k188_90 rfl rfl ?_
            refine q_s (pc' := 100) (ls' := [vR 137, vI l1, vI l2, vI l3, vI (iw (l4 + 1)), vI 0, vI (-201)]) (st' := []) (g' := g) k188_93 rfl rfl ?_
            refine q_s (pc' := 101) (ls' := [vR 137, vI l1, vI l2, vI l3, vI (iw (l4 + 1)), vI 0, vI (-201)]) (st' := [vI 0]) (g' := g) k188_100 rfl rfl ?_
            refine q_s (pc' := 103) (ls' := [vR 137, vI l1, vI l2, vI l3, vI (iw (l4 + 1)), vI 0, vI (-201)]) (st' := []) (g' := g) k188_101 rfl rfl ?_
            refine q_s (pc' := 105) (ls' := [vR 137, vI l1, vI l2, vI l3, vI (iw (l4 + 1)), vI 0, vI (-201)]) (st' := [vI 0]) (g' := g) k188_103 rfl rfl ?_
            refine q_s (pc' := 113) (ls' := [vR 137, vI l1, vI l2, vI l3, vI (iw (l4 + 1)), vI 0, vI (-201)]) (st' := []) (g' := g) k188_105 rfl rfl ?_
            refine q_s (pc' := 114) (ls' := [vR 137, vI l1, vI l2, vI l3, vI (iw (l4 + 1)), vI 0, vI (-201)]) (st' := [vI l3]) (g' := g) k188_113 rfl rfl ?_
            refine q_s (pc' := 115) (ls' := [vR 137, vI l1, vI l2, vI l3, vI (iw (l4 + 1)), vI 0, vI (-201)]) (st' := []) (g' := g) k188_114 rfl rfl ?_
            refine q_s (pc' := 8) (ls' := [vR 137, vI l1, vI l2, vI l3, vI (iw (l4 + 1)), vI 0, vI (-201)]) (st' := []) (g' := g) k188_115 rfl rfl ?_
            rfl
          · refine q_s (pc' := 40) (ls' := [vR 137, vI l1, vI l2, vI l3, vI l4, vI l5, w6]) (st' := [vR 137]) (g' := g) k188_39 rfl rfl ?_
            refine q_s (pc' := 41) (ls' := [vR 137, vI l1, vI l2, vI l3, vI l4, vI l5, w6]) (st' := [vI l1, vR 137]) (g' := g) k188_40 rfl rfl ?_
            refine q_s (pc' := 42) (ls' := [vR 137, vI l1, vI l2, vI l3, vI l4, vI l5, w6]) (st' := [vR 137, vI l1, vR 137]) (g' := g) k188_41 rfl rfl ?_
            refine q_s (pc' := 43) (ls' := [vR 137, vI l1, vI l2, vI l3, vI l4, vI l5, w6]) (st' := [vI l1, vR 137, vI l1, vR 137]) (g' := g) k188_42 rfl rfl ?_
            refine q_s (pc' := 44) (ls' := [vR 137, vI l1, vI l2, vI l3, vI l4, vI l5, w6]) (st' := [vI l3, vI l1, vR 137, vI l1, vR 137]) (g' := g) k188_43 rfl rfl ?_
            refine q_callI (ls0 := [vR 137, vI l1, vI l3]) (rest := [vI l1, vR 137]) (pc' := 47) rfl k188_44 rfl (hy4 rfl rfl rfl rfl) rfl rfl hq_145 rfl (fun q24 => ?_)
            refine q_callI (ls0 := [vR 137, vI l1, vI q24.1, vU, vU]) (rest := []) (pc' := 50) rfl k188_47 rfl (hy4 rfl rfl rfl rfl) rfl rfl hq_187 rfl (fun q25 => ?_)
            refine q_s (pc' := 51) (ls' := [vR 137, vI l1, vI l2, vI l3, vI l4, vI l5, w6]) (st' := [vI 1, vI q25.1]) (g' := q25.2) k188_50 rfl rfl ?_
            refine q_ic (P := q25.1 ≠ 1) (t := 58) (pc' := 54) k188_51 Iff.rfl rfl rfl (fun h26 => ?_) (fun h26 => ?_)
            · refine q_s (pc' := 59) (ls' := [vR 137, vI l1, vI l2, vI l3, vI l4, vI l5, w6]) (st' := [vI 0]) (g' := q25.2) k188_58 rfl rfl ?_
              refine q_s (pc' := 61) (ls' := [vR 137, vI l1, vI l2, vI l3, vI l4, vI 0, w6]) (st' := []) (g' := q25.2) k188_59 rfl rfl ?_
              refine q_s (pc' := 64) (ls' := [vR 137, vI l1, vI l2, vI l3, vI (iw (l4 + 1)), vI 0, w6]) (st' := []) (g' := q25.2) k188_61 rfl rfl ?_
              refine q_s (pc' := 66) (ls' := [vR 137, vI l1, vI l2, vI l3, vI (iw (l4 + 1)), vI 0, w6]) (st' := [vI 0]) (g' := q25.2) k188_64 rfl rfl ?_
              refine q_s (pc' := 83) (ls' := [vR 137, vI l1, vI l2, vI l3, vI (iw (l4 + 1)), vI 0, w6]) (st' := []) (g' := q25.2) k188_66 rfl rfl ?_
              refine q_s (pc' := 86) (ls' := [vR 137, vI l1, vI l2, vI l3, vI (iw (l4 + 1)), vI 0, w6]) (st' := [vI (-201)]) (g' := q25.2) k188_83 rfl rfl ?_
              refine q_s (pc' := 88) (ls' := [vR 137, vI l1, vI l2, vI l3, vI (iw (l4 + 1)), vI 0, vI (-201)]) (st' := []) (g' := q25.2) k188_86 rfl rfl ?_
              refine q_s (pc' := 90) (ls' := [vR 137, vI l1, vI l2, vI l3, vI (iw (l4 + 1)), vI 0, vI (-201)]) (st' := [vI (-201)]) (g' := q25.2) k188_88 rfl rfl ?_
              refine q_s (pc' := 93) (ls' := [vR 137, vI l1, vI l2, vI l3, vI (iw (l4 + 1)), vI 0, vI (-201)]) (st' := [vI (-201), vI (-201)]) (g' := q25.2) k188_90 rfl rfl ?_
              refine q_s (pc' := 100) (ls' := [vR 137, vI l1, vI l2, vI l3, vI (iw (l4 + 1)), vI 0, vI (-201)]) (st' := []) (g' := q25.2) k188_93 rfl rfl ?_
              refine q_s (pc' := 101) (ls' := [vR 137, vI l1, vI l2, vI l3, vI (iw (l4 + 1)), vI 0, vI (-201)]) (st' := [vI 0]) (g' := q25.2) k188_100 rfl rfl ?_
              refine q_s (pc' := 103) (ls' := [vR 137, vI l1, vI l2, vI l3, vI (iw (l4 + 1)), vI 0, vI (-201)]) (st' := []) (g' := q25.2) k188_101 rfl rfl ?_
              refine q_s (pc' := 105) (ls' := [vR 137, vI l1, vI l2, vI l3, vI (iw (l4 + 1)), vI 0, vI (-201)]) (st' := [vI 0]) (g' := q25.2) k188_103 rfl rfl ?_
              refine q_s (pc' := 113) (ls' := [vR 137, vI l1, vI l2, vI l3, vI (iw (l4 + 1)), vI 0, vI (-201)]) (st' := []) (g' := q25.2) k188_105 rfl rfl ?_
              refine q_s (pc' := 114) (ls' := [vR 137, vI l1, vI l2, vI l3, vI (iw (l4 + 1)), vI 0, vI (-201)]) (st' := [vI l3]) (g' := q25.2) k188_113 rfl rfl ?_
              refine q_s (pc' := 115) (ls' := [vR 137, vI l1, vI l2, vI l3, vI (iw (l4 + 1)), vI 0, vI (-201)]) (st' := []) (g' := q25.2) k188_114 rfl rfl ?_
              refine q_s (pc' := 8) (ls' := [vR 137, vI l1, vI l2, vI l3, vI (iw (l4 + 1)), vI 0, vI (-201)]) (st' := []) (g' := q25.2) k188_115 rfl rfl ?_
              rfl
            · refine q_s (pc' := 55) (ls' := [vR 137, vI l1, vI l2, vI l3, vI l4, vI l5, w6]) (st' := [vI 1]) (g' := q25.2) k188_54 rfl rfl ?_
              refine q_s (pc' := 59) (ls' := [vR 137, vI l1, vI l2, vI l3, vI l4, vI l5, w6]) (st' := [vI 1]) (g' := q25.2) k188_55 rfl rfl ?_
              refine q_s (pc' := 61) (ls' := [vR 137, vI l1, vI l2, vI l3, vI l4, vI 1, w6]) (st' := []) (g' := q25.2) k188_59 rfl rfl ?_
              refine q_s (pc' := 64) (ls' := [vR 137, vI l1, vI l2, vI l3, vI (iw (l4 + 1)), vI 1, w6]) (st' := []) (g' := q25.2) k188_61 rfl rfl ?_
              refine q_s (pc' := 66) (ls' := [vR 137, vI l1, vI l2, vI l3, vI (iw (l4 + 1)), vI 1, w6]) (st' := [vI 1]) (g' := q25.2) k188_64 rfl rfl ?_
              refine q_s (pc' := 69) (ls' := [vR 137, vI l1, vI l2, vI l3, vI (iw (l4 + 1)), vI 1, w6]) (st' := []) (g' := q25.2) k188_66 rfl rfl ?_
              refine q_s (pc' := 70) (ls' := [vR 137, vI l1, vI l2, vI l3, vI (iw (l4 + 1)), vI 1, w6]) (st' := [vR 137]) (g' := q25.2) k188_69 rfl rfl ?_
              refine q_s (pc' := 71) (ls' := [vR 137, vI l1, vI l2, vI l3, vI (iw (l4 + 1)), vI 1, w6]) (st' := [vI l1, vR 137]) (g' := q25.2) k188_70 rfl rfl ?_
              refine q_s (pc' := 72) (ls' := [vR 137, vI l1, vI l2, vI l3, vI (iw (l4 + 1)), vI 1, w6]) (st' := [vR 137, vI l1, vR 137]) (g' := q25.2) k188_71 rfl rfl ?_
              refine q_getF (r := 149) (pc' := 75) k188_72 rfl rfl rfl rfl ?_
              refine q_s (pc' := 76) (ls' := [vR 137, vI l1, vI l2, vI l3, vI (iw (l4 + 1)), vI 1, w6]) (st' := [vI l3, vR 149, vI l1, vR 137]) (g' := q25.2) k188_75 rfl rfl ?_
              refine q_iald (n := 6) (pc' := 77) rfl k188_76 rfl rfl (fun h27 => ?_)
              refine q_callI (ls0 := [vR 137, vI l1, vI (q25.2 149 l3), vU, vU]) (rest := []) (pc' := 80) rfl k188_77 rfl (hy4 rfl rfl rfl rfl) rfl rfl hq_176 rfl (fun q28 => ?_)
              refine q_s (pc' := 86) (ls' := [vR 137, vI l1, vI l2, vI l3, vI (iw (l4 + 1)), vI 1, w6]) (st' := [vI q28.1]) (g' := q28.2) k188_80 rfl rfl ?_
              refine q_s (pc' := 88) (ls' := [vR 137, vI l1, vI l2, vI l3, vI (iw (l4 + 1)), vI 1, vI q28.1]) (st' := []) (g' := q28.2) k188_86 rfl rfl ?_
              refine q_s (pc' := 90) (ls' := [vR 137, vI l1, vI l2, vI l3, vI (iw (l4 + 1)), vI 1, vI q28.1]) (st' := [vI q28.1]) (g' := q28.2) k188_88 rfl rfl ?_
              refine q_s (pc' := 93) (ls' := [vR 137, vI l1, vI l2, vI l3, vI (iw (l4 + 1)), vI 1, vI q28.1]) (st' := [vI (-201), vI q28.1]) (g' := q28.2) k188_90 rfl rfl ?_
              refine q_ic (P := q28.1 = (-201)) (t := 100) (pc' := 96) k188_93 Iff.rfl rfl rfl (fun h29 => ?_) (fun h29 => ?_)
              · refine q_s (pc' := 101) (ls' := [vR 137, vI l1, vI l2, vI l3, vI (iw (l4 + 1)), vI 1, vI q28.1]) (st' := [vI 0]) (g' := q28.2) k188_100 rfl rfl ?_
                refine q_s (pc' := 103) (ls' := [vR 137, vI l1, vI l2, vI l3, vI (iw (l4 + 1)), vI 0, vI q28.1]) (st' := []) (g' := q28.2) k188_101 rfl rfl ?_
                refine q_s (pc' := 105) (ls' := [vR 137, vI l1, vI l2, vI l3, vI (iw (l4 + 1)), vI 0, vI q28.1]) (st' := [vI 0]) (g' := q28.2) k188_103 rfl rfl ?_
                refine q_s (pc' := 113) (ls' := [vR 137, vI l1, vI l2, vI l3, vI (iw (l4 + 1)), vI 0, vI q28.1]) (st' := []) (g' := q28.2) k188_105 rfl rfl ?_
                refine q_s (pc' := 114) (ls' := [vR 137, vI l1, vI l2, vI l3, vI (iw (l4 + 1)), vI 0, vI q28.1]) (st' := [vI l3]) (g' := q28.2) k188_113 rfl rfl ?_
                refine q_s (pc' := 115) (ls' := [vR 137, vI l1, vI l2, vI l3, vI (iw (l4 + 1)), vI 0, vI q28.1]) (st' := []) (g' := q28.2) k188_114 rfl rfl ?_
                refine q_s (pc' := 8) (ls' := [vR 137, vI l1, vI l2, vI l3, vI (iw (l4 + 1)), vI 0, vI q28.1]) (st' := []) (g' := q28.2) k188_115 rfl rfl ?_
                rfl
              · refine q_s (pc' := 97) (ls' := [vR 137, vI l1, vI l2, vI l3, vI (iw (l4 + 1)), vI 1, vI q28.1]) (st' := [vI 1]) (g' := q28.2) k188_96 rfl rfl ?_
                refine q_s (pc' := 101) (ls' := [vR 137, vI l1, vI l2, vI l3, vI (iw (l4 + 1)), vI 1, vI q28.1]) (st' := [vI 1]) (g' := q28.2) k188_97 rfl rfl ?_
                refine q_s (pc' := 103) (ls' := [vR 137, vI l1, vI l2, vI l3, vI (iw (l4 + 1)), vI 1, vI q28.1]) (st' := []) (g' := q28.2) k188_101 rfl rfl ?_
                refine q_s (pc' := 105) (ls' := [vR 137, vI l1, vI l2, vI l3, vI (iw (l4 + 1)), vI 1, vI q28.1]) (st' := [vI 1]) (g' := q28.2) k188_103 rfl rfl ?_
                refine q_s (pc' := 108) (ls' := [vR 137, vI l1, vI l2, vI l3, vI (iw (l4 + 1)), vI 1, vI q28.1]) (st' := []) (g' := q28.2) k188_105 rfl rfl ?_
                refine q_s (pc' := 110) (ls' := [vR 137, vI l1, vI l2, vI l3, vI (iw (l4 + 1)), vI 1, vI q28.1]) (st' := [vI q28.1]) (g' := q28.2) k188_108 rfl rfl ?_
                refine q_s (pc' := 114) (ls' := [vR 137, vI l1, vI l2, vI l3, vI (iw (l4 + 1)), vI 1, vI q28.1]) (st' := [vI q28.1]) (g' := q28.2) k188_110 rfl rfl ?_
                refine q_s (pc' := 115) (ls' := [vR 137, vI l1, vI l2, vI q28.1, vI (iw (l4 + 1)), vI 1, vI q28.1]) (st' := []) (g' := q28.2) k188_114 rfl rfl ?_
                refine q_s (pc' := 8) (ls' := [vR 137, vI l1, vI l2, vI q28.1, vI (iw (l4 + 1)), vI 1, vI q28.1]) (st' := []) (g' := q28.2) k188_115 rfl rfl ?_
                rfl
set_option maxHeartbeats 4000000 in
theorem jM_rings_eq (L : Nat) (a1 : Int) (a2 : Int) (g : AMem) : jM_rings L a1 a2 g = (jM_isEdge L a1 g).bind (fun q1 => if q1.1 = 0 then ((jM_bad L q1.2).bind (fun q3 => some (q3.1, q3.2))) else ((jM_in L a2 0 2 q1.2).bind (fun q4 => if q4.1 ≠ 0 then ((jM_isClear L a1 q4.2).bind (fun q6 => if q6.1 ≠ 0 then ((jM_setOpen L a1 q6.2).bind (fun q8 => jM_rings_51 L a1 a2 0 0 0 0 vU q8)) else ((jM_no L q6.2).bind (fun q9 => some (q9.1, q9.2))))) else ((jM_bad L q4.2).bind (fun q10 => some (q10.1, q10.2)))))) := by
  unfold jM_rings
  refine q_s (pc' := 1) (ls' := [vR 137, vI a1, vI a2, vU, vU, vU, vU, vU]) (st' := [vR 137]) (g' := g) k189_0 rfl rfl ?_
  refine q_s (pc' := 2) (ls' := [vR 137, vI a1, vI a2, vU, vU, vU, vU, vU]) (st' := [vI a1, vR 137]) (g' := g) k189_1 rfl rfl ?_
  refine q_callI (ls0 := [vR 137, vI a1]) (rest := []) (pc' := 5) rfl k189_2 rfl (hy4 rfl rfl rfl rfl) rfl rfl hq_144 rfl (fun q1 => ?_)
  refine q_if (P := q1.1 = 0) (t := 17) (pc' := 8) k189_5 Iff.rfl rfl rfl (fun h2 => ?_) (fun h2 => ?_)
  · refine q_s (pc' := 18) (ls' := [vR 137, vI a1, vI a2, vU, vU, vU, vU, vU]) (st' := [vR 137]) (g' := q1.2) k189_17 rfl rfl ?_
    refine q_callI (ls0 := [vR 137]) (rest := []) (pc' := 21) rfl k189_18 rfl (hy4 rfl rfl rfl rfl) rfl rfl hq_133 rfl (fun q3 => ?_)
    exact q_e k189_21 rfl rfl rfl
  · refine q_s (pc' := 9) (ls' := [vR 137, vI a1, vI a2, vU, vU, vU, vU, vU]) (st' := [vI a2]) (g' := q1.2) k189_8 rfl rfl ?_
    refine q_s (pc' := 10) (ls' := [vR 137, vI a1, vI a2, vU, vU, vU, vU, vU]) (st' := [vI 0, vI a2]) (g' := q1.2) k189_9 rfl rfl ?_
    refine q_s (pc' := 11) (ls' := [vR 137, vI a1, vI a2, vU, vU, vU, vU, vU]) (st' := [vI 2, vI 0, vI a2]) (g' := q1.2) k189_10 rfl rfl ?_
    refine q_callI (ls0 := [vI a2, vI 0, vI 2]) (rest := []) (pc' := 14) rfl k189_11 rfl (hy4 rfl rfl rfl rfl) rfl rfl hq_136 rfl (fun q4 => ?_)
    refine q_if (P := q4.1 ≠ 0) (t := 22) (pc' := 17) k189_14 Iff.rfl rfl rfl (fun h5 => ?_) (fun h5 => ?_)
    · refine q_s (pc' := 23) (ls' := [vR 137, vI a1, vI a2, vU, vU, vU, vU, vU]) (st' := [vR 137]) (g' := q4.2) k189_22 rfl rfl ?_
      refine q_s (pc' := 24) (ls' := [vR 137, vI a1, vI a2, vU, vU, vU, vU, vU]) (st' := [vI a1, vR 137]) (g' := q4.2) k189_23 rfl rfl ?_
      refine q_callI (ls0 := [vR 137, vI a1, vU, vU]) (rest := []) (pc' := 27) rfl k189_24 rfl (hy4 rfl rfl rfl rfl) rfl rfl hq_165 rfl (fun q6 => ?_)
      refine q_if (P := q6.1 ≠ 0) (t := 35) (pc' := 30) k189_27 Iff.rfl rfl rfl (fun h7 => ?_) (fun h7 => ?_)
      · refine q_s (pc' := 36) (ls' := [vR 137, vI a1, vI a2, vU, vU, vU, vU, vU]) (st' := [vR 137]) (g' := q6.2) k189_35 rfl rfl ?_
        refine q_s (pc' := 37) (ls' := [vR 137, vI a1, vI a2, vU, vU, vU, vU, vU]) (st' := [vI a1, vR 137]) (g' := q6.2) k189_36 rfl rfl ?_
        refine q_callV (ls0 := [vR 137, vI a1, vU]) (rest := []) (pc' := 40) rfl k189_37 rfl (hy4 rfl rfl rfl rfl) rfl rfl hq_180 rfl (fun q8 => ?_)
        refine q_s (pc' := 41) (ls' := [vR 137, vI a1, vI a2, vU, vU, vU, vU, vU]) (st' := [vI 0]) (g' := q8) k189_40 rfl rfl ?_
        refine q_s (pc' := 42) (ls' := [vR 137, vI a1, vI a2, vI 0, vU, vU, vU, vU]) (st' := []) (g' := q8) k189_41 rfl rfl ?_
        refine q_s (pc' := 43) (ls' := [vR 137, vI a1, vI a2, vI 0, vU, vU, vU, vU]) (st' := [vI 0]) (g' := q8) k189_42 rfl rfl ?_
        refine q_s (pc' := 45) (ls' := [vR 137, vI a1, vI a2, vI 0, vI 0, vU, vU, vU]) (st' := []) (g' := q8) k189_43 rfl rfl ?_
        refine q_s (pc' := 46) (ls' := [vR 137, vI a1, vI a2, vI 0, vI 0, vU, vU, vU]) (st' := [vI 0]) (g' := q8) k189_45 rfl rfl ?_
        refine q_s (pc' := 48) (ls' := [vR 137, vI a1, vI a2, vI 0, vI 0, vI 0, vU, vU]) (st' := []) (g' := q8) k189_46 rfl rfl ?_
        refine q_s (pc' := 49) (ls' := [vR 137, vI a1, vI a2, vI 0, vI 0, vI 0, vU, vU]) (st' := [vI 0]) (g' := q8) k189_48 rfl rfl ?_
        refine q_s (pc' := 51) (ls' := [vR 137, vI a1, vI a2, vI 0, vI 0, vI 0, vI 0, vU]) (st' := []) (g' := q8) k189_49 rfl rfl ?_
        rfl
      · refine q_s (pc' := 31) (ls' := [vR 137, vI a1, vI a2, vU, vU, vU, vU, vU]) (st' := [vR 137]) (g' := q6.2) k189_30 rfl rfl ?_
        refine q_callI (ls0 := [vR 137]) (rest := []) (pc' := 34) rfl k189_31 rfl (hy4 rfl rfl rfl rfl) rfl rfl hq_134 rfl (fun q9 => ?_)
        exact q_e k189_34 rfl rfl rfl
    · refine q_s (pc' := 18) (ls' := [vR 137, vI a1, vI a2, vU, vU, vU, vU, vU]) (st' := [vR 137]) (g' := q4.2) k189_17 rfl rfl ?_
      refine q_callI (ls0 := [vR 137]) (rest := []) (pc' := 21) rfl k189_18 rfl (hy4 rfl rfl rfl rfl) rfl rfl hq_133 rfl (fun q10 => ?_)
      exact q_e k189_21 rfl rfl rfl
set_option maxHeartbeats 4000000 in
theorem jM_rings_51_eq (L : Nat) (l1 : Int) (l2 : Int) (l3 : Int) (l4 : Int) (l5 : Int) (l6 : Int) (w7 : AVal) (g : AMem) : jM_rings_51 L l1 l2 l3 l4 l5 l6 w7 g = (jM_manyOf L l1 g).bind (fun q11 => if q11.1 ≤ l6 then (if l2 ≠ 0 then (if l2 ≠ 1 then (some (l4, q11.2)) else (some (l3, q11.2))) else (some (iw (l5.tdiv 60), q11.2))) else (if 0 ≤ l6 ∧ l6 < 6 then (if q11.2 148 l6 = 0 then (if 0 ≤ l6 ∧ l6 < 6 then (if q11.2 148 l6 = 0 then (if 0 ≤ l3 then (jM_rings_51 L l1 l2 l3 (iw (l4 + 0)) (iw (l5 + 0)) (iw (l6 + 1)) (vI 0) q11.2) else (jM_rings_51 L l1 l2 0 (iw (l4 + 0)) (iw (l5 + 0)) (iw (l6 + 1)) (vI 0) q11.2)) else (if 0 ≤ l3 then (jM_rings_51 L l1 l2 l3 (iw (l4 + 1)) (iw (l5 + 0)) (iw (l6 + 1)) (vI 0) q11.2) else (jM_rings_51 L l1 l2 0 (iw (l4 + 1)) (iw (l5 + 0)) (iw (l6 + 1)) (vI 0) q11.2))) else none) else ((jM_ringOf L l1 l6 q11.2).bind (fun q21 => if 0 ≤ l6 ∧ l6 < 6 then (if q21.2 148 l6 = 0 then (if q21.1 ≤ l3 then (if q21.1 ≤ 0 then (jM_rings_51 L l1 l2 l3 (iw (l4 + 0)) (iw (l5 + 0)) (iw (l6 + 1)) (vI q21.1) q21.2) else (if q21.1 = 0 then none else jM_rings_51 L l1 l2 l3 (iw (l4 + 0)) (iw (l5 + (iw ((60 : Int).tdiv q21.1)))) (iw (l6 + 1)) (vI q21.1) q21.2)) else (if q21.1 ≤ 0 then (jM_rings_51 L l1 l2 q21.1 (iw (l4 + 0)) (iw (l5 + 0)) (iw (l6 + 1)) (vI q21.1) q21.2) else (if q21.1 = 0 then none else jM_rings_51 L l1 l2 q21.1 (iw (l4 + 0)) (iw (l5 + (iw ((60 : Int).tdiv q21.1)))) (iw (l6 + 1)) (vI q21.1) q21.2))) else (if q21.1 ≠ 0 then (if q21.1 ≤ l3 then (if q21.1 ≤ 0 then (jM_rings_51 L l1 l2 l3 (iw (l4 + 0)) (iw (l5 + 0)) (iw (l6 + 1)) (vI q21.1) q21.2) else (if q21.1 = 0 then none else jM_rings_51 L l1 l2 l3 (iw (l4 + 0)) (iw (l5 + (iw ((60 : Int).tdiv q21.1)))) (iw (l6 + 1)) (vI q21.1) q21.2)) else (if q21.1 ≤ 0 then (jM_rings_51 L l1 l2 q21.1 (iw (l4 + 0)) (iw (l5 + 0)) (iw (l6 + 1)) (vI q21.1) q21.2) else (if q21.1 = 0 then none else jM_rings_51 L l1 l2 q21.1 (iw (l4 + 0)) (iw (l5 + (iw ((60 : Int).tdiv q21.1)))) (iw (l6 + 1)) (vI q21.1) q21.2))) else (if q21.1 ≤ l3 then (if q21.1 ≤ 0 then (jM_rings_51 L l1 l2 l3 (iw (l4 + 1)) (iw (l5 + 0)) (iw (l6 + 1)) (vI q21.1) q21.2) else (if q21.1 = 0 then none else jM_rings_51 L l1 l2 l3 (iw (l4 + 1)) (iw (l5 + (iw ((60 : Int).tdiv q21.1)))) (iw (l6 + 1)) (vI q21.1) q21.2)) else (if q21.1 ≤ 0 then (jM_rings_51 L l1 l2 q21.1 (iw (l4 + 1)) (iw (l5 + 0)) (iw (l6 + 1)) (vI q21.1) q21.2) else (if q21.1 = 0 then none else jM_rings_51 L l1 l2 q21.1 (iw (l4 + 1)) (iw (l5 + (iw ((60 : Int).tdiv q21.1)))) (iw (l6 + 1)) (vI q21.1) q21.2))))) else none))) else none)) := by
  unfold jM_rings_51
  refine q_s (pc' := 53) (ls' := [vR 137, vI l1, vI l2, vI l3, vI l4, vI l5, vI l6, w7]) (st' := [vI l6]) (g' := g) k189_51 rfl rfl ?_
  refine q_s (pc' := 54) (ls' := [vR 137, vI l1, vI l2, vI l3, vI l4, vI l5, vI l6, w7]) (st' := [vR 137, vI l6]) (g' := g) k189_53 rfl rfl ?_
  refine q_s (pc' := 55) (ls' := [vR 137, vI l1, vI l2, vI l3, vI l4, vI l5, vI l6, w7]) (st' := [vI l1, vR 137, vI l6]) (g' := g) k189_54 rfl rfl ?_
  refine q_callI (ls0 := [vR 137, vI l1]) (rest := [vI l6]) (pc' := 58) rfl k189_55 rfl (hy4 rfl rfl rfl rfl) rfl rfl hq_146 rfl (fun q11 => ?_)
  refine q_ic (P := q11.1 ≤ l6) (t := 147) (pc' := 61) k189_58 Iff.rfl rfl rfl (fun h12 => ?_) (fun h12 => ?_)
  · refine q_s (pc' := 148) (ls' := [vR 137, vI l1, vI l2, vI l3, vI l4, vI l5, vI l6, w7]) (st' := [vI l2]) (g' := q11.2) k189_147 rfl rfl ?_
    refine q_if (P := l2 ≠ 0) (t := 159) (pc' := 151) k189_148 Iff.rfl rfl rfl (fun h13 => ?_) (fun h13 => ?_)
    · refine q_s (pc' := 160) (ls' := [vR 137, vI l1, vI l2, vI l3, vI l4, vI l5, vI l6, w7]) (st' := [vI l2]) (g' := q11.2) k189_159 rfl rfl ?_
      refine q_s (pc' := 161) (ls' := [vR 137, vI l1, vI l2, vI l3, vI l4, vI l5, vI l6, w7]) (st' := [vI 1, vI l2]) (g' := q11.2) k189_160 rfl rfl ?_
      refine q_ic (P := l2 ≠ 1) (t := 168) (pc' := 164) k189_161 Iff.rfl rfl rfl (fun h14 => ?_) (fun h14 => ?_)
      · refine q_s (pc' := 170) (ls' := [vR 137, vI l1, vI l2, vI l3, vI l4, vI l5, vI l6, w7]) (st' := [vI l4]) (g' := q11.2) k189_168 rfl rfl ?_
        exact q_e k189_170 rfl rfl rfl
      · refine q_s (pc' := 165) (ls' := [vR 137, vI l1, vI l2, vI l3, vI l4, vI l5, vI l6, w7]) (st' := [vI l3]) (g' := q11.2) k189_164 rfl rfl ?_
        refine q_s (pc' := 170) (ls' := [vR 137, vI l1, vI l2, vI l3, vI l4, vI l5, vI l6, w7]) (st' := [vI l3]) (g' := q11.2) k189_165 rfl rfl ?_
        exact q_e k189_170 rfl rfl rfl
    · refine q_s (pc' := 153) (ls' := [vR 137, vI l1, vI l2, vI l3, vI l4, vI l5, vI l6, w7]) (st' := [vI l5]) (g' := q11.2) k189_151 rfl rfl ?_
      refine q_s (pc' := 155) (ls' := [vR 137, vI l1, vI l2, vI l3, vI l4, vI l5, vI l6, w7]) (st' := [vI 60, vI l5]) (g' := q11.2) k189_153 rfl rfl ?_
      refine q_s (pc' := 156) (ls' := [vR 137, vI l1, vI l2, vI l3, vI l4, vI l5, vI l6, w7]) (st' := [vI (iw (l5.tdiv 60))]) (g' := q11.2) k189_155 rfl rfl ?_
      refine q_s (pc' := 170) (ls' := [vR 137, vI l1, vI l2, vI l3, vI l4, vI l5, vI l6, w7]) (st' := [vI (iw (l5.tdiv 60))]) (g' := q11.2) k189_156 rfl rfl ?_
      exact q_e k189_170 rfl rfl rfl
  · refine q_s (pc' := 62) (ls' := [vR 137, vI l1, vI l2, vI l3, vI l4, vI l5, vI l6, w7]) (st' := [vR 137]) (g' := q11.2) k189_61 rfl rfl ?_
    refine q_getF (r := 148) (pc' := 65) k189_62 rfl rfl rfl rfl ?_
    refine q_s (pc' := 67) (ls' := [vR 137, vI l1, vI l2, vI l3, vI l4, vI l5, vI l6, w7]) (st' := [vI l6, vR 148]) (g' := q11.2) k189_65 rfl rfl ?_
    refine q_bald (n := 6) (pc' := 68) rfl k189_67 rfl rfl (fun h15 => ?_)
    refine q_if (P := q11.2 148 l6 = 0) (t := 81) (pc' := 71) k189_68 Iff.rfl rfl rfl (fun h16 => ?_) (fun h16 => ?_)
    · refine q_s (pc' := 82) (ls' := [vR 137, vI l1, vI l2, vI l3, vI l4, vI l5, vI l6, w7]) (st' := [vI 0]) (g' := q11.2) k189_81 rfl rfl ?_
      refine q_s (pc' := 84) (ls' := [vR 137, vI l1, vI l2, vI l3, vI l4, vI l5, vI l6, vI 0]) (st' := []) (g' := q11.2) k189_82 rfl rfl ?_
      refine q_s (pc' := 86) (ls' := [vR 137, vI l1, vI l2, vI l3, vI l4, vI l5, vI l6, vI 0]) (st' := [vI l4]) (g' := q11.2) k189_84 rfl rfl ?_
      refine q_s (pc' := 87) (ls' := [vR 137, vI l1, vI l2, vI l3, vI l4, vI l5, vI l6, vI 0]) (st' := [vR 137, vI l4]) (g' := q11.2) k189_86 rfl rfl ?_
      refine q_getF (r := 148) (pc' := 90) k189_87 rfl rfl rfl rfl ?_
      refine q_s (pc' := 92) (ls' := [vR 137, vI l1, vI l2, vI l3, vI l4, vI l5, vI l6, vI 0]) (st' := [vI l6, vR 148, vI l4]) (g' := q11.2) k189_90 rfl rfl ?_
      refine q_bald (n := 6) (pc' := 93) rfl k189_92 rfl rfl (fun h17 => ?_)
      refine q_if (P := q11.2 148 l6 = 0) (t := 105) (pc' := 96) k189_93 Iff.rfl rfl rfl (fun h18 => ?_) (fun h18 => ?_)
      · refine q_s (pc' := 106) (ls' := [vR 137, vI l1, vI l2, vI l3, vI l4, vI l5, vI l6, vI 0]) (st' := [vI 0, vI l4]) (g' := q11.2) k189_105 rfl rfl ?_
        refine q_s (pc' := 107) (ls' := [vR 137, vI l1, vI l2, vI l3, vI l4, vI l5, vI l6, vI 0]) (st' := [vI (iw (l4 + 0))]) (g' := q11.2) k189_106 rfl rfl ?_
        refine q_s (pc' := 109) (ls' := [vR 137, vI l1, vI l2, vI l3, vI (iw (l4 + 0)), vI l5, vI l6, vI 0]) (st' := []) (g' := q11.2) k189_107 rfl rfl ?_
        refine q_s (pc' := 111) (ls' := [vR 137, vI l1, vI l2, vI l3, vI (iw (l4 + 0)), vI l5, vI l6, vI 0]) (st' := [vI 0]) (g' := q11.2) k189_109 rfl rfl ?_
        refine q_s (pc' := 112) (ls' := [vR 137, vI l1, vI l2, vI l3, vI (iw (l4 + 0)), vI l5, vI l6, vI 0]) (st' := [vI l3, vI 0]) (g' := q11.2) k189_111 rfl rfl ?_
        refine q_ic (P := 0 ≤ l3) (t := 120) (pc' := 115) k189_112 Iff.rfl rfl rfl (fun h19 => ?_) (fun h19 => ?_)
        · refine q_s (pc' := 121) (ls' := [vR 137, vI l1, vI l2, vI l3, vI (iw (l4 + 0)), vI l5, vI l6, vI 0]) (st' := [vI l3]) (g' := q11.2) k189_120 rfl rfl ?_
          refine q_s (pc' := 122) (ls' := [vR 137, vI l1, vI l2, vI l3, vI (iw (l4 + 0)), vI l5, vI l6, vI 0]) (st' := []) (g' := q11.2) k189_121 rfl rfl ?_
          refine q_s (pc' := 124) (ls' := [vR 137, vI l1, vI l2, vI l3, vI (iw (l4 + 0)), vI l5, vI l6, vI 0]) (st' := [vI l5]) (g' := q11.2) k189_122 rfl rfl ?_
          refine q_s (pc' := 126) (ls' := [vR 137, vI l1, vI l2, vI l3, vI (iw (l4 + 0)), vI l5, vI l6, vI 0]) (st' := [vI 0, vI l5]) (g' := q11.2) k189_124 rfl rfl ?_
          refine q_s (pc' := 137) (ls' := [vR 137, vI l1, vI l2, vI l3, vI (iw (l4 + 0)), vI l5, vI l6, vI 0]) (st' := [vI l5]) (g' := q11.2) k189_126 rfl rfl ?_
          refine q_s (pc' := 138) (ls' := [vR 137, vI l1, vI l2, vI l3, vI (iw (l4 + 0)), vI l5, vI l6, vI 0]) (st' := [vI 0, vI l5]) (g' := q11.2) k189_137 rfl rfl ?_
          refine q_s (pc' := 139) (ls' := [vR 137, vI l1, vI l2, vI l3, vI (iw (l4 + 0)), vI l5, vI l6, vI 0]) (st' := [vI (iw (l5 + 0))]) (g' := q11.2) k189_138 rfl rfl ?_
          refine q_s (pc' := 141) (ls' := [vR 137, vI l1, vI l2, vI l3, vI (iw (l4 + 0)), vI (iw (l5 + 0)), vI l6, vI 0]) (st' := []) (g' := q11.2) k189_139 rfl rfl ?_
          refine q_s (pc' := 144) (ls' := [vR 137, vI l1, vI l2, vI l3, vI (iw (l4 + 0)), vI (iw (l5 + 0)), vI (iw (l6 + 1)), vI 0]) (st' := []) (g' := q11.2) k189_141 rfl rfl ?_
          refine q_s (pc' := 51) (ls' := [vR 137, vI l1, vI l2, vI l3, vI (iw (l4 + 0)), vI (iw (l5 + 0)), vI (iw (l6 + 1)), vI 0]) (st' := []) (g' := q11.2) k189_144 rfl rfl ?_
          rfl
        · refine q_s (pc' := 117) (ls' := [vR 137, vI l1, vI l2, vI l3, vI (iw (l4 + 0)), vI l5, vI l6, vI 0]) (st' := [vI 0]) (g' := q11.2) k189_115 rfl rfl ?_
          refine q_s (pc' := 121) (ls' := [vR 137, vI l1, vI l2, vI l3, vI (iw (l4 + 0)), vI l5, vI l6, vI 0]) (st' := [vI 0]) (g' := q11.2) k189_117 rfl rfl ?_
          refine q_s (pc' := 122) (ls' := [vR 137, vI l1, vI l2, vI 0, vI (iw (l4 + 0)), vI l5, vI l6, vI 0]) (st' := []) (g' := q11.2) k189_121 rfl rfl ?_
          refine q_s (pc' := 124) (ls' := [vR 137, vI l1, vI l2, vI 0, vI (iw (l4 + 0)), vI l5, vI l6, vI 0]) (st' := [vI l5]) (g' := q11.2) k189_122 rfl rfl ?_
          refine q_s (pc' := 126) (ls' := [vR 137, vI l1, vI l2, vI 0, vI (iw (l4 + 0)), vI l5, vI l6, vI 0]) (st' := [vI 0, vI l5]) (g' := q11.2) k189_124 rfl rfl ?_
          refine q_s (pc' := 137) (ls' := [vR 137, vI l1, vI l2, vI 0, vI (iw (l4 + 0)), vI l5, vI l6, vI 0]) (st' := [vI l5]) (g' := q11.2) k189_126 rfl rfl ?_
          refine q_s (pc' := 138) (ls' := [vR 137, vI l1, vI l2, vI 0, vI (iw (l4 + 0)), vI l5, vI l6, vI 0]) (st' := [vI 0, vI l5]) (g' := q11.2) k189_137 rfl rfl ?_
          refine q_s (pc' := 139) (ls' := [vR 137, vI l1, vI l2, vI 0, vI (iw (l4 + 0)), vI l5, vI l6, vI 0]) (st' := [vI (iw (l5 + 0))]) (g' := q11.2) k189_138 rfl rfl ?_
          refine q_s (pc' := 141) (ls' := [vR 137, vI l1, vI l2, vI 0, vI (iw (l4 + 0)), vI (iw (l5 + 0)), vI l6, vI 0]) (st' := []) (g' := q11.2) k189_139 rfl rfl ?_
          refine q_s (pc' := 144) (ls' := [vR 137, vI l1, vI l2, vI 0, vI (iw (l4 + 0)), vI (iw (l5 + 0)), vI (iw (l6 + 1)), vI 0]) (st' := []) (g' := q11.2) k189_141 rfl rfl ?_
          refine q_s (pc' := 51) (ls' := [vR 137, vI l1, vI l2, vI 0, vI (iw (l4 + 0)), vI (iw (l5 + 0)), vI (iw (l6 + 1)), vI 0]) (st' := []) (g' := q11.2) k189_144 rfl rfl ?_
          rfl
      · refine q_s (pc' := 98) (ls' := [vR 137, vI l1, vI l2, vI l3, vI l4, vI l5, vI l6, vI 0]) (st' := [vI 0, vI l4]) (g' := q11.2) k189_96 rfl rfl ?_
        refine q_s (pc' := 101) (ls' := [vR 137, vI l1, vI l2, vI l3, vI l4, vI l5, vI l6, vI 0]) (st' := [vI l4]) (g' := q11.2) k189_98 rfl rfl ?_
        refine q_s (pc' := 102) (ls' := [vR 137, vI l1, vI l2, vI l3, vI l4, vI l5, vI l6, vI 0]) (st' := [vI 1, vI l4]) (g' := q11.2) k189_101 rfl rfl ?_
        refine q_s (pc' := 106) (ls' := [vR 137, vI l1, vI l2, vI l3, vI l4, vI l5, vI l6, vI 0]) (st' := [vI 1, vI l4]) (g' := q11.2) k189_102 rfl rfl ?_
        refine q_s (pc' := 107) (ls' := [vR 137, vI l1, vI l2, vI l3, vI l4, vI l5, vI l6, vI 0]) (st' := [vI (iw (l4 + 1))]) (g' := q11.2) k189_106 rfl rfl ?_
        refine q_s (pc' := 109) (ls' := [vR 137, vI l1, vI l2, vI l3, vI (iw (l4 + 1)), vI l5, vI l6, vI 0]) (st' := []) (g' := q11.2) k189_107 rfl rfl ?_
        refine q_s (pc' := 111) (ls' := [vR 137, vI l1, vI l2, vI l3, vI (iw (l4 + 1)), vI l5, vI l6, vI 0]) (st' := [vI 0]) (g' := q11.2) k189_109 rfl rfl ?_
        refine q_s (pc' := 112) (ls' := [vR 137, vI l1, vI l2, vI l3, vI (iw (l4 + 1)), vI l5, vI l6, vI 0]) (st' := [vI l3, vI 0]) (g' := q11.2) k189_111 rfl rfl ?_
        refine q_ic (P := 0 ≤ l3) (t := 120) (pc' := 115) k189_112 Iff.rfl rfl rfl (fun h20 => ?_) (fun h20 => ?_)
        · refine q_s (pc' := 121) (ls' := [vR 137, vI l1, vI l2, vI l3, vI (iw (l4 + 1)), vI l5, vI l6, vI 0]) (st' := [vI l3]) (g' := q11.2) k189_120 rfl rfl ?_
          refine q_s (pc' := 122) (ls' := [vR 137, vI l1, vI l2, vI l3, vI (iw (l4 + 1)), vI l5, vI l6, vI 0]) (st' := []) (g' := q11.2) k189_121 rfl rfl ?_
          refine q_s (pc' := 124) (ls' := [vR 137, vI l1, vI l2, vI l3, vI (iw (l4 + 1)), vI l5, vI l6, vI 0]) (st' := [vI l5]) (g' := q11.2) k189_122 rfl rfl ?_
          refine q_s (pc' := 126) (ls' := [vR 137, vI l1, vI l2, vI l3, vI (iw (l4 + 1)), vI l5, vI l6, vI 0]) (st' := [vI 0, vI l5]) (g' := q11.2) k189_124 rfl rfl ?_
          refine q_s (pc' := 137) (ls' := [vR 137, vI l1, vI l2, vI l3, vI (iw (l4 + 1)), vI l5, vI l6, vI 0]) (st' := [vI l5]) (g' := q11.2) k189_126 rfl rfl ?_
          refine q_s (pc' := 138) (ls' := [vR 137, vI l1, vI l2, vI l3, vI (iw (l4 + 1)), vI l5, vI l6, vI 0]) (st' := [vI 0, vI l5]) (g' := q11.2) k189_137 rfl rfl ?_
          refine q_s (pc' := 139) (ls' := [vR 137, vI l1, vI l2, vI l3, vI (iw (l4 + 1)), vI l5, vI l6, vI 0]) (st' := [vI (iw (l5 + 0))]) (g' := q11.2) k189_138 rfl rfl ?_
          refine q_s (pc' := 141) (ls' := [vR 137, vI l1, vI l2, vI l3, vI (iw (l4 + 1)), vI (iw (l5 + 0)), vI l6, vI 0]) (st' := []) (g' := q11.2) k189_139 rfl rfl ?_
          refine q_s (pc' := 144) (ls' := [vR 137, vI l1, vI l2, vI l3, vI (iw (l4 + 1)), vI (iw (l5 + 0)), vI (iw (l6 + 1)), vI 0]) (st' := []) (g' := q11.2) k189_141 rfl rfl ?_
          refine q_s (pc' := 51) (ls' := [vR 137, vI l1, vI l2, vI l3, vI (iw (l4 + 1)), vI (iw (l5 + 0)), vI (iw (l6 + 1)), vI 0]) (st' := []) (g' := q11.2) k189_144 rfl rfl ?_
          rfl
        · refine q_s (pc' := 117) (ls' := [vR 137, vI l1, vI l2, vI l3, vI (iw (l4 + 1)), vI l5, vI l6, vI 0]) (st' := [vI 0]) (g' := q11.2) k189_115 rfl rfl ?_
          refine q_s (pc' := 121) (ls' := [vR 137, vI l1, vI l2, vI l3, vI (iw (l4 + 1)), vI l5, vI l6, vI 0]) (st' := [vI 0]) (g' := q11.2) k189_117 rfl rfl ?_
          refine q_s (pc' := 122) (ls' := [vR 137, vI l1, vI l2, vI 0, vI (iw (l4 + 1)), vI l5, vI l6, vI 0]) (st' := []) (g' := q11.2) k189_121 rfl rfl ?_
          refine q_s (pc' := 124) (ls' := [vR 137, vI l1, vI l2, vI 0, vI (iw (l4 + 1)), vI l5, vI l6, vI 0]) (st' := [vI l5]) (g' := q11.2) k189_122 rfl rfl ?_
          refine q_s (pc' := 126) (ls' := [vR 137, vI l1, vI l2, vI 0, vI (iw (l4 + 1)), vI l5, vI l6, vI 0]) (st' := [vI 0, vI l5]) (g' := q11.2) k189_124 rfl rfl ?_
          refine q_s (pc' := 137) (ls' := [vR 137, vI l1, vI l2, vI 0, vI (iw (l4 + 1)), vI l5, vI l6, vI 0]) (st' := [vI l5]) (g' := q11.2) k189_126 rfl rfl ?_
          refine q_s (pc' := 138) (ls' := [vR 137, vI l1, vI l2, vI 0, vI (iw (l4 + 1)), vI l5, vI l6, vI 0]) (st' := [vI 0, vI l5]) (g' := q11.2) k189_137 rfl rfl ?_
          refine q_s (pc' := 139) (ls' := [vR 137, vI l1, vI l2, vI 0, vI (iw (l4 + 1)), vI l5, vI l6, vI 0]) (st' := [vI (iw (l5 + 0))]) (g' := q11.2) k189_138 rfl rfl ?_
          refine q_s (pc' := 141) (ls' := [vR 137, vI l1, vI l2, vI 0, vI (iw (l4 + 1)), vI (iw (l5 + 0)), vI l6, vI 0]) (st' := []) (g' := q11.2) k189_139 rfl rfl ?_
          refine q_s (pc' := 144) (ls' := [vR 137, vI l1, vI l2, vI 0, vI (iw (l4 + 1)), vI (iw (l5 + 0)), vI (iw (l6 + 1)), vI 0]) (st' := []) (g' := q11.2) k189_141 rfl rfl ?_
          refine q_s (pc' := 51) (ls' := [vR 137, vI l1, vI l2, vI 0, vI (iw (l4 + 1)), vI (iw (l5 + 0)), vI (iw (l6 + 1)), vI 0]) (st' := []) (g' := q11.2) k189_144 rfl rfl ?_
          rfl
    · refine q_s (pc' := 72) (ls' := [vR 137, vI l1, vI l2, vI l3, vI l4, vI l5, vI l6, w7]) (st' := [vR 137]) (g' := q11.2) k189_71 rfl rfl ?_
      refine q_s (pc' := 73) (ls' := [vR 137, vI l1, vI l2, vI l3, vI l4, vI l5, vI l6, w7]) (st' := [vI l1, vR 137]) (g' := q11.2) k189_72 rfl rfl ?_
      refine q_s (pc' := 75) (ls' := [vR 137, vI l1, vI l2, vI l3, vI l4, vI l5, vI l6, w7]) (st' := [vI l6, vI l1, vR 137]) (g' := q11.2) k189_73 rfl rfl ?_
      refine q_callI (ls0 := [vR 137, vI l1, vI l6, vU, vU, vU, vU]) (rest := []) (pc' := 78) rfl k189_75 rfl (hy4 rfl rfl rfl rfl) rfl rfl hq_188 rfl (fun q21 => ?_)
      refine q_s (pc' := 82) (ls' := [vR 137, vI l1, vI l2, vI l3, vI l4, vI l5, vI l6, w7]) (st' := [vI q21.1]) (g' := q21.2) k189_78 rfl rfl ?_
      refine q_s (pc' := 84) (ls' := [vR 137, vI l1, vI l2, vI l3, vI l4, vI l5, vI l6, vI q21.1]) (st' := []) (g' := q21.2) k189_82 rfl rfl ?_
      refine q_s (pc' := 86) (ls' := [vR 137, vI l1, vI l2, vI l3, vI l4, vI l5, vI l6, vI q21.1]) (st' := [vI l4]) (g' := q21.2) k189_84 rfl rfl ?_
      refine q_s (pc' := 87) (ls' := [vR 137, vI l1, vI l2, vI l3, vI l4, vI l5, vI l6, vI q21.1]) (st' := [vR 137, vI l4]) (g' := q21.2) k189_86 rfl rfl ?_
      refine q_getF (r := 148) (pc' := 90) k189_87 rfl rfl rfl rfl ?_
      refine q_s (pc' := 92) (ls' := [vR 137, vI l1, vI l2, vI l3, vI l4, vI l5, vI l6, vI q21.1]) (st' := [vI l6, vR 148, vI l4]) (g' := q21.2) k189_90 rfl rfl ?_
      refine q_bald (n := 6) (pc' := 93) rfl k189_92 rfl rfl (fun h22 => ?_)
      refine q_if (P := q21.2 148 l6 = 0) (t := 105) (pc' := 96) k189_93 Iff.rfl rfl rfl (fun h23 => ?_) (fun h23 => ?_)
      · refine q_s (pc' := 106) (ls' := [vR 137, vI l1, vI l2, vI l3, vI l4, vI l5, vI l6, vI q21.1]) (st' := [vI 0, vI l4]) (g' := q21.2) k189_105 rfl rfl ?_
        refine q_s (pc' := 107) (ls' := [vR 137, vI l1, vI l2, vI l3, vI l4, vI l5, vI l6, vI q21.1]) (st' := [vI (iw (l4 + 0))]) (g' := q21.2) k189_106 rfl rfl ?_
        refine q_s (pc' := 109) (ls' := [vR 137, vI l1, vI l2, vI l3, vI (iw (l4 + 0)), vI l5, vI l6, vI q21.1]) (st' := []) (g' := q21.2) k189_107 rfl rfl ?_
        refine q_s (pc' := 111) (ls' := [vR 137, vI l1, vI l2, vI l3, vI (iw (l4 + 0)), vI l5, vI l6, vI q21.1]) (st' := [vI q21.1]) (g' := q21.2) k189_109 rfl rfl ?_
        refine q_s (pc' := 112) (ls' := [vR 137, vI l1, vI l2, vI l3, vI (iw (l4 + 0)), vI l5, vI l6, vI q21.1]) (st' := [vI l3, vI q21.1]) (g' := q21.2) k189_111 rfl rfl ?_
        refine q_ic (P := q21.1 ≤ l3) (t := 120) (pc' := 115) k189_112 Iff.rfl rfl rfl (fun h24 => ?_) (fun h24 => ?_)
        · refine q_s (pc' := 121) (ls' := [vR 137, vI l1, vI l2, vI l3, vI (iw (l4 + 0)), vI l5, vI l6, vI q21.1]) (st' := [vI l3]) (g' := q21.2) k189_120 rfl rfl ?_
          refine q_s (pc' := 122) (ls' := [vR 137, vI l1, vI l2, vI l3, vI (iw (l4 + 0)), vI l5, vI l6, vI q21.1]) (st' := []) (g' := q21.2) k189_121 rfl rfl ?_
          refine q_s (pc' := 124) (ls' := [vR 137, vI l1, vI l2, vI l3, vI (iw (l4 + 0)), vI l5, vI l6, vI q21.1]) (st' := [vI l5]) (g' := q21.2) k189_122 rfl rfl ?_
          refine q_s (pc' := 126) (ls' := [vR 137, vI l1, vI l2, vI l3, vI (iw (l4 + 0)), vI l5, vI l6, vI q21.1]) (st' := [vI q21.1, vI l5]) (g' := q21.2) k189_124 rfl rfl ?_
          refine q_if (P := q21.1 ≤ 0) (t := 137) (pc' := 129) k189_126 Iff.rfl rfl rfl (fun h25 => ?_) (fun h25 => ?_)
          · refine q_s (pc' := 138) (ls' := [vR 137, vI l1, vI l2, vI l3, vI (iw (l4 + 0)), vI l5, vI l6, vI q21.1]) (st' := [vI 0, vI l5]) (g' := q21.2) k189_137 rfl rfl ?_
            refine q_s (pc' := 139) (ls' := [vR 137, vI l1, vI l2, vI l3, vI (iw (l4 + 0)), vI l5, vI l6, vI q21.1]) (st' := [vI (iw (l5 + 0))]) (g' := q21.2) k189_138 rfl rfl ?_
            refine q_s (pc' := 141) (ls' := [vR 137, vI l1, vI l2, vI l3, vI (iw (l4 + 0)), vI (iw (l5 + 0)), vI l6, vI q21.1]) (st' := []) (g' := q21.2) k189_139 rfl rfl ?_
            refine q_s (pc' := 144) (ls' := [vR 137, vI l1, vI l2, vI l3, vI (iw (l4 + 0)), vI (iw (l5 + 0)), vI (iw (l6 + 1)), vI q21.1]) (st' := []) (g' := q21.2) k189_141 rfl rfl ?_
            refine q_s (pc' := 51) (ls' := [vR 137, vI l1, vI l2, vI l3, vI (iw (l4 + 0)), vI (iw (l5 + 0)), vI (iw (l6 + 1)), vI q21.1]) (st' := []) (g' := q21.2) k189_144 rfl rfl ?_
            rfl
          · refine q_s (pc' := 131) (ls' := [vR 137, vI l1, vI l2, vI l3, vI (iw (l4 + 0)), vI l5, vI l6, vI q21.1]) (st' := [vI 60, vI l5]) (g' := q21.2) k189_129 rfl rfl ?_
            refine q_s (pc' := 133) (ls' := [vR 137, vI l1, vI l2, vI l3, vI (iw (l4 + 0)), vI l5, vI l6, vI q21.1]) (st' := [vI q21.1, vI 60, vI l5]) (g' := q21.2) k189_131 rfl rfl ?_
            refine q_idiv (pc' := 134) rfl k189_133 rfl (fun _ => ?_)
            refine q_s (pc' := 138) (ls' := [vR 137, vI l1, vI l2, vI l3, vI (iw (l4 + 0)), vI l5, vI l6, vI q21.1]) (st' := [vI (iw ((60 : Int).tdiv q21.1)), vI l5]) (g' := q21.2) k189_134 rfl rfl ?_
            refine q_s (pc' := 139) (ls' := [vR 137, vI l1, vI l2, vI l3, vI (iw (l4 + 0)), vI l5, vI l6, vI q21.1]) (st' := [vI (iw (l5 + (iw ((60 : Int).tdiv q21.1))))]) (g' := q21.2) k189_138 rfl rfl ?_
            refine q_s (pc' := 141) (ls' := [vR 137, vI l1, vI l2, vI l3, vI (iw (l4 + 0)), vI (iw (l5 + (iw ((60 : Int).tdiv q21.1)))), vI l6, vI q21.1]) (st' := []) (g' := q21.2) k189_139 rfl rfl ?_
            refine q_s (pc' := 144) (ls' := [vR 137, vI l1, vI l2, vI l3, vI (iw (l4 + 0)), vI (iw (l5 + (iw ((60 : Int).tdiv q21.1)))), vI (iw (l6 + 1)), vI q21.1]) (st' := []) (g' := q21.2) k189_141 rfl rfl ?_
            refine q_s (pc' := 51) (ls' := [vR 137, vI l1, vI l2, vI l3, vI (iw (l4 + 0)), vI (iw (l5 + (iw ((60 : Int).tdiv q21.1)))), vI (iw (l6 + 1)), vI q21.1]) (st' := []) (g' := q21.2) k189_144 rfl rfl ?_
            rfl
        · refine q_s (pc' := 117) (ls' := [vR 137, vI l1, vI l2, vI l3, vI (iw (l4 + 0)), vI l5, vI l6, vI q21.1]) (st' := [vI q21.1]) (g' := q21.2) k189_115 rfl rfl ?_
          refine q_s (pc' := 121) (ls' := [vR 137, vI l1, vI l2, vI l3, vI (iw (l4 + 0)), vI l5, vI l6, vI q21.1]) (st' := [vI q21.1]) (g' := q21.2) k189_117 rfl rfl ?_
          refine q_s (pc' := 122) (ls' := [vR 137, vI l1, vI l2, vI q21.1, vI (iw (l4 + 0)), vI l5, vI l6, vI q21.1]) (st' := []) (g' := q21.2) k189_121 rfl rfl ?_
          refine q_s (pc' := 124) (ls' := [vR 137, vI l1, vI l2, vI q21.1, vI (iw (l4 + 0)), vI l5, vI l6, vI q21.1]) (st' := [vI l5]) (g' := q21.2) k189_122 rfl rfl ?_
          refine q_s (pc' := 126) (ls' := [vR 137, vI l1, vI l2, vI q21.1, vI (iw (l4 + 0)), vI l5, vI l6, vI q21.1]) (st' := [vI q21.1, vI l5]) (g' := q21.2) k189_124 rfl rfl ?_
          refine q_if (P := q21.1 ≤ 0) (t := 137) (pc' := 129) k189_126 Iff.rfl rfl rfl (fun h26 => ?_) (fun h26 => ?_)
          · refine q_s (pc' := 138) (ls' := [vR 137, vI l1, vI l2, vI q21.1, vI (iw (l4 + 0)), vI l5, vI l6, vI q21.1]) (st' := [vI 0, vI l5]) (g' := q21.2) k189_137 rfl rfl ?_
            refine q_s (pc' := 139) (ls' := [vR 137, vI l1, vI l2, vI q21.1, vI (iw (l4 + 0)), vI l5, vI l6, vI q21.1]) (st' := [vI (iw (l5 + 0))]) (g' := q21.2) k189_138 rfl rfl ?_
            refine q_s (pc' := 141) (ls' := [vR 137, vI l1, vI l2, vI q21.1, vI (iw (l4 + 0)), vI (iw (l5 + 0)), vI l6, vI q21.1]) (st' := []) (g' := q21.2) k189_139 rfl rfl ?_
            refine q_s (pc' := 144) (ls' := [vR 137, vI l1, vI l2, vI q21.1, vI (iw (l4 + 0)), vI (iw (l5 + 0)), vI (iw (l6 + 1)), vI q21.1]) (st' := []) (g' := q21.2) k189_141 rfl rfl ?_
            refine q_s (pc' := 51) (ls' := [vR 137, vI l1, vI l2, vI q21.1, vI (iw (l4 + 0)), vI (iw (l5 + 0)), vI (iw (l6 + 1)), vI q21.1]) (st' := []) (g' := q21.2) k189_144 rfl rfl ?_
            rfl
          · refine q_s (pc' := 131) (ls' := [vR 137, vI l1, vI l2, vI q21.1, vI (iw (l4 + 0)), vI l5, vI l6, vI q21.1]) (st' := [vI 60, vI l5]) (g' := q21.2) k189_129 rfl rfl ?_
            refine q_s (pc' := 133) (ls' := [vR 137, vI l1, vI l2, vI q21.1, vI (iw (l4 + 0)), vI l5, vI l6, vI q21.1]) (st' := [vI q21.1, vI 60, vI l5]) (g' := q21.2) k189_131 rfl rfl ?_
            refine q_idiv (pc' := 134) rfl k189_133 rfl (fun _ => ?_)
            refine q_s (pc' := 138) (ls' := [vR 137, vI l1, vI l2, vI q21.1, vI (iw (l4 + 0)), vI l5, vI l6, vI q21.1]) (st' := [vI (iw ((60 : Int).tdiv q21.1)), vI l5]) (g' := q21.2) k189_134 rfl rfl ?_
            refine q_s (pc' := 139) (ls' := [vR 137, vI l1, vI l2, vI q21.1, vI (iw (l4 + 0)), vI l5, vI l6, vI q21.1]) (st' := [vI (iw (l5 + (iw ((60 : Int).tdiv q21.1))))]) (g' := q21.2) k189_138 rfl rfl ?_
            refine q_s (pc' := 141) (ls' := [vR 137, vI l1, vI l2, vI q21.1, vI (iw (l4 + 0)), vI (iw (l5 + (iw ((60 : Int).tdiv q21.1)))), vI l6, vI q21.1]) (st' := []) (g' := q21.2) k189_139 rfl rfl ?_
            refine q_s (pc' := 144) (ls' := [vR 137, vI l1, vI l2, vI q21.1, vI (iw (l4 + 0)), vI (iw (l5 + (iw ((60 : Int).tdiv q21.1)))), vI (iw (l6 + 1)), vI q21.1]) (st' := []) (g' := q21.2) k189_141 rfl rfl ?_
            refine q_s (pc' := 51) (ls' := [vR 137, vI l1, vI l2, vI q21.1, vI (iw (l4 + 0)), vI (iw (l5 + (iw ((60 : Int).tdiv q21.1)))), vI (iw (l6 + 1)), vI q21.1]) (st' := []) (g' := q21.2) k189_144 rfl rfl ?_
            rfl
      · refine q_s (pc' := 98) (ls' := [vR 137, vI l1, vI l2, vI l3, vI l4, vI l5, vI l6, vI q21.1]) (st' := [vI q21.1, vI l4]) (g' := q21.2) k189_96 rfl rfl ?_
        refine q_if (P := q21.1 ≠ 0) (t := 105) (pc' := 101) k189_98 Iff.rfl rfl rfl (fun h27 => ?_) (fun h27 => ?_)
        · refine q_s (pc' := 106) (ls' := [vR 137, vI l1, vI l2, vI l3, vI l4, vI l5, vI l6, vI q21.1]) (st' := [vI 0, vI l4]) (g' := q21.2) k189_105 rfl rfl ?_
          refine q_s (pc' := 107) (ls' := [vR 137, vI l1, vI l2, vI l3, vI l4, vI l5, vI l6, vI q21.1]) (st' := [vI (iw (l4 + 0))]) (g' := q21.2) k189_106 rfl rfl ?_
          refine q_s (pc' := 109) (ls' := [vR 137, vI l1, vI l2, vI l3, vI (iw (l4 + 0)), vI l5, vI l6, vI q21.1]) (st' := []) (g' := q21.2) k189_107 rfl rfl ?_
          refine q_s (pc' := 111) (ls' := [vR 137, vI l1, vI l2, vI l3, vI (iw (l4 + 0)), vI l5, vI l6, vI q21.1]) (st' := [vI q21.1]) (g' := q21.2) k189_109 rfl rfl ?_
          refine q_s (pc' := 112) (ls' := [vR 137, vI l1, vI l2, vI l3, vI (iw (l4 + 0)), vI l5, vI l6, vI q21.1]) (st' := [vI l3, vI q21.1]) (g' := q21.2) k189_111 rfl rfl ?_
          refine q_ic (P := q21.1 ≤ l3) (t := 120) (pc' := 115) k189_112 Iff.rfl rfl rfl (fun h28 => ?_) (fun h28 => ?_)
          · refine q_s (pc' := 121) (ls' := [vR 137, vI l1, vI l2, vI l3, vI (iw (l4 + 0)), vI l5, vI l6, vI q21.1]) (st' := [vI l3]) (g' := q21.2) k189_120 rfl rfl ?_
            refine q_s (pc' := 122) (ls' := [vR 137, vI l1, vI l2, vI l3, vI (iw (l4 + 0)), vI l5, vI l6, vI q21.1]) (st' := []) (g' := q21.2) k189_121 rfl rfl ?_
            refine q_s (pc' := 124) (ls' := [vR 137, vI l1, vI l2, vI l3, vI (iw (l4 + 0)), vI l5, vI l6, vI q21.1]) (st' := [vI l5]) (g' := q21.2) k189_122 rfl rfl ?_
            refine q_s (pc' := 126) (ls' := [vR 137, vI l1, vI l2, vI l3, vI (iw (l4 + 0)), vI l5, vI l6, vI q21.1]) (st' := [vI q21.1, vI l5]) (g' := q21.2) k189_124 rfl rfl ?_
            refine q_if (P := q21.1 ≤ 0) (t := 137) (pc' := 129) k189_126 Iff.rfl rfl rfl (fun h29 => ?_) (fun h29 => ?_)
            · refine q_s (pc' := 138) (ls' := [vR 137, vI l1, vI l2, vI l3, vI (iw (l4 + 0)), vI l5, vI l6, vI q21.1]) (st' := [vI 0, vI l5]) (g' := q21.2) k189_137 rfl rfl ?_
              refine q_s (pc' := 139) (ls' := [vR 137, vI l1, vI l2, vI l3, vI (iw (l4 + 0)), vI l5, vI l6, vI q21.1]) (st' := [vI (iw (l5 + 0))]) (g' := q21.2) k189_138 rfl rfl ?_
              refine q_s (pc' := 141) (ls' := [vR 137, vI l1, vI l2, vI l3, vI (iw (l4 + 0)), vI (iw (l5 + 0)), vI l6, vI q21.1]) (st' := []) (g' := q21.2) k189_139 rfl rfl ?_
              refine q_s (pc' := 144) (ls' := [vR 137, vI l1, vI l2, vI l3, vI (iw (l4 + 0)), vI (iw (l5 + 0)), vI (iw (l6 + 1)), vI q21.1]) (st' := []) (g' := q21.2) k189_141 rfl rfl ?_
              refine q_s (pc' := 51) (ls' := [vR 137, vI l1, vI l2, vI l3, vI (iw (l4 + 0)), vI (iw (l5 + 0)), vI (iw (l6 + 1)), vI q21.1]) (st' := []) (g' := q21.2) k189_144 rfl rfl ?_
              rfl
            · refine q_s (pc' := 131) (ls' := [vR 137, vI l1, vI l2, vI l3, vI (iw (l4 + 0)), vI l5, vI l6, vI q21.1]) (st' := [vI 60, vI l5]) (g' := q21.2) k189_129 rfl rfl ?_
              refine q_s (pc' := 133) (ls' := [vR 137, vI l1, vI l2, vI l3, vI (iw (l4 + 0)), vI l5, vI l6, vI q21.1]) (st' := [vI q21.1, vI 60, vI l5]) (g' := q21.2) k189_131 rfl rfl ?_
              refine q_idiv (pc' := 134) rfl k189_133 rfl (fun _ => ?_)
              refine q_s (pc' := 138) (ls' := [vR 137, vI l1, vI l2, vI l3, vI (iw (l4 + 0)), vI l5, vI l6, vI q21.1]) (st' := [vI (iw ((60 : Int).tdiv q21.1)), vI l5]) (g' := q21.2) k189_134 rfl rfl ?_
              refine q_s (pc' := 139) (ls' := [vR 137, vI l1, vI l2, vI l3, vI (iw (l4 + 0)), vI l5, vI l6, vI q21.1]) (st' := [vI (iw (l5 + (iw ((60 : Int).tdiv q21.1))))]) (g' := q21.2) k189_138 rfl rfl ?_
              refine q_s (pc' := 141) (ls' := [vR 137, vI l1, vI l2, vI l3, vI (iw (l4 + 0)), vI (iw (l5 + (iw ((60 : Int).tdiv q21.1)))), vI l6, vI q21.1]) (st' := []) (g' := q21.2) k189_139 rfl rfl ?_
              refine q_s (pc' := 144) (ls' := [vR 137, vI l1, vI l2, vI l3, vI (iw (l4 + 0)), vI (iw (l5 + (iw ((60 : Int).tdiv q21.1)))), vI (iw (l6 + 1)), vI q21.1]) (st' := []) (g' := q21.2) k189_141 rfl rfl ?_
              refine q_s (pc' := 51) (ls' := [vR 137, vI l1, vI l2, vI l3, vI (iw (l4 + 0)), vI (iw (l5 + (iw ((60 : Int).tdiv q21.1)))), vI (iw (l6 + 1)), vI q21.1]) (st' := []) (g' := q21.2) k189_144 rfl rfl ?_
              rfl
          · refine q_s (pc' := 117) (ls' := [vR 137, vI l1, vI l2, vI l3, vI (iw (l4 + 0)), vI l5, vI l6, vI q21.1]) (st' := [vI q21.1]) (g' := q21.2) k189_115 rfl rfl ?_
            refine q_s (pc' := 121) (ls' := [vR 137, vI l1, vI l2, vI l3, vI (iw (l4 + 0)), vI l5, vI l6, vI q21.1]) (st' := [vI q21.1]) (g' := q21.2) k189_117 rfl rfl ?_
            refine q_s (pc' := 122) (ls' := [vR 137, vI l1, vI l2, vI q21.1, vI (iw (l4 + 0)), vI l5, vI l6, vI q21.1]) (st' := []) (g' := q21.2) k189_121 rfl rfl ?_
            refine q_s (pc' := 124) (ls' := [vR 137, vI l1, vI l2, vI q21.1, vI (iw (l4 + 0)), vI l5, vI l6, vI q21.1]) (st' := [vI l5]) (g' := q21.2) k189_122 rfl rfl ?_
            refine q_s (pc' := 126) (ls' := [vR 137, vI l1, vI l2, vI q21.1, vI (iw (l4 + 0)), vI l5, vI l6, vI q21.1]) (st' := [vI q21.1, vI l5]) (g' := q21.2) k189_124 rfl rfl ?_
            refine q_if (P := q21.1 ≤ 0) (t := 137) (pc' := 129) k189_126 Iff.rfl rfl rfl (fun h30 => ?_) (fun h30 => ?_)
            · refine q_s (pc' := 138) (ls' := [vR 137, vI l1, vI l2, vI q21.1, vI (iw (l4 + 0)), vI l5, vI l6, vI q21.1]) (st' := [vI 0, vI l5]) (g' := q21.2) k189_137 rfl rfl ?_
              refine q_s (pc' := 139) (ls' := [vR 137, vI l1, vI l2, vI q21.1, vI (iw (l4 + 0)), vI l5, vI l6, vI q21.1]) (st' := [vI (iw (l5 + 0))]) (g' := q21.2) k189_138 rfl rfl ?_
              refine q_s (pc' := 141) (ls' := [vR 137, vI l1, vI l2, vI q21.1, vI (iw (l4 + 0)), vI (iw (l5 + 0)), vI l6, vI q21.1]) (st' := []) (g' := q21.2) k189_139 rfl rfl ?_
              refine q_s (pc' := 144) (ls' := [vR 137, vI l1, vI l2, vI q21.1, vI (iw (l4 + 0)), vI (iw (l5 + 0)), vI (iw (l6 + 1)), vI q21.1]) (st' := []) (g' := q21.2) k189_141 rfl rfl ?_
              refine q_s (pc' := 51) (ls' := [vR 137, vI l1, vI l2, vI q21.1, vI (iw (l4 + 0)), vI (iw (l5 + 0)), vI (iw (l6 + 1)), vI q21.1]) (st' := []) (g' := q21.2) k189_144 rfl rfl ?_
              rfl
            · refine q_s (pc' := 131) (ls' := [vR 137, vI l1, vI l2, vI q21.1, vI (iw (l4 + 0)), vI l5, vI l6, vI q21.1]) (st' := [vI 60, vI l5]) (g' := q21.2) k189_129 rfl rfl ?_
              refine q_s (pc' := 133) (ls' := [vR 137, vI l1, vI l2, vI q21.1, vI (iw (l4 + 0)), vI l5, vI l6, vI q21.1]) (st' := [vI q21.1, vI 60, vI l5]) (g' := q21.2) k189_131 rfl rfl ?_
              refine q_idiv (pc' := 134) rfl k189_133 rfl (fun _ => ?_)
              refine q_s (pc' := 138) (ls' := [vR 137, vI l1, vI l2, vI q21.1, vI (iw (l4 + 0)), vI l5, vI l6, vI q21.1]) (st' := [vI (iw ((60 : Int).tdiv q21.1)), vI l5]) (g' := q21.2) k189_134 rfl rfl ?_
              refine q_s (pc' := 139) (ls' := [vR 137, vI l1, vI l2, vI q21.1, vI (iw (l4 + 0)), vI l5, vI l6, vI q21.1]) (st' := [vI (iw (l5 + (iw ((60 : Int).tdiv q21.1))))]) (g' := q21.2) k189_138 rfl rfl ?_
              refine q_s (pc' := 141) (ls' := [vR 137, vI l1, vI l2, vI q21.1, vI (iw (l4 + 0)), vI (iw (l5 + (iw ((60 : Int).tdiv q21.1)))), vI l6, vI q21.1]) (st' := []) (g' := q21.2) k189_139 rfl rfl ?_
              refine q_s (pc' := 144) (ls' := [vR 137, vI l1, vI l2, vI q21.1, vI (iw (l4 + 0)), vI (iw (l5 + (iw ((60 : Int).tdiv q21.1)))), vI (iw (l6 + 1)), vI q21.1]) (st' := []) (g' := q21.2) k189_141 rfl rfl ?_
              refine q_s (pc' := 51) (ls' := [vR 137, vI l1, vI l2, vI q21.1, vI (iw (l4 + 0)), vI (iw (l5 + (iw ((60 : Int).tdiv q21.1)))), vI (iw (l6 + 1)), vI q21.1]) (st' := []) (g' := q21.2) k189_144 rfl rfl ?_
              rfl
        · refine q_s (pc' := 102) (ls' := [vR 137, vI l1, vI l2, vI l3, vI l4, vI l5, vI l6, vI q21.1]) (st' := [vI 1, vI l4]) (g' := q21.2) k189_101 rfl rfl ?_
          refine q_s (pc' := 106) (ls' := [vR 137, vI l1, vI l2, vI l3, vI l4, vI l5, vI l6, vI q21.1]) (st' := [vI 1, vI l4]) (g' := q21.2) k189_102 rfl rfl ?_
          refine q_s (pc' := 107) (ls' := [vR 137, vI l1, vI l2, vI l3, vI l4, vI l5, vI l6, vI q21.1]) (st' := [vI (iw (l4 + 1))]) (g' := q21.2) k189_106 rfl rfl ?_
          refine q_s (pc' := 109) (ls' := [vR 137, vI l1, vI l2, vI l3, vI (iw (l4 + 1)), vI l5, vI l6, vI q21.1]) (st' := []) (g' := q21.2) k189_107 rfl rfl ?_
          refine q_s (pc' := 111) (ls' := [vR 137, vI l1, vI l2, vI l3, vI (iw (l4 + 1)), vI l5, vI l6, vI q21.1]) (st' := [vI q21.1]) (g' := q21.2) k189_109 rfl rfl ?_
          refine q_s (pc' := 112) (ls' := [vR 137, vI l1, vI l2, vI l3, vI (iw (l4 + 1)), vI l5, vI l6, vI q21.1]) (st' := [vI l3, vI q21.1]) (g' := q21.2) k189_111 rfl rfl ?_
          refine q_ic (P := q21.1 ≤ l3) (t := 120) (pc' := 115) k189_112 Iff.rfl rfl rfl (fun h31 => ?_) (fun h31 => ?_)
          · refine q_s (pc' := 121) (ls' := [vR 137, vI l1, vI l2, vI l3, vI (iw (l4 + 1)), vI l5, vI l6, vI q21.1]) (st' := [vI l3]) (g' := q21.2) k189_120 rfl rfl ?_
            refine q_s (pc' := 122) (ls' := [vR 137, vI l1, vI l2, vI l3, vI (iw (l4 + 1)), vI l5, vI l6, vI q21.1]) (st' := []) (g' := q21.2) k189_121 rfl rfl ?_
            refine q_s (pc' := 124) (ls' := [vR 137, vI l1, vI l2, vI l3, vI (iw (l4 + 1)), vI l5, vI l6, vI q21.1]) (st' := [vI l5]) (g' := q21.2) k189_122 rfl rfl ?_
            refine q_s (pc' := 126) (ls' := [vR 137, vI l1, vI l2, vI l3, vI (iw (l4 + 1)), vI l5, vI l6, vI q21.1]) (st' := [vI q21.1, vI l5]) (g' := q21.2) k189_124 rfl rfl ?_
            refine q_if (P := q21.1 ≤ 0) (t := 137) (pc' := 129) k189_126 Iff.rfl rfl rfl (fun h32 => ?_) (fun h32 => ?_)
            · refine q_s (pc' := 138) (ls' := [vR 137, vI l1, vI l2, vI l3, vI (iw (l4 + 1)), vI l5, vI l6, vI q21.1]) (st' := [vI 0, vI l5]) (g' := q21.2) k189_137 rfl rfl ?_
              refine q_s (pc' := 139) (ls' := [vR 137, vI l1, vI l2, vI l3, vI (iw (l4 + 1)), vI l5, vI l6, vI q21.1]) (st' := [vI (iw (l5 + 0))]) (g' := q21.2) k189_138 rfl rfl ?_
              refine q_s (pc' := 141) (ls' := [vR 137, vI l1, vI l2, vI l3, vI (iw (l4 + 1)), vI (iw (l5 + 0)), vI l6, vI q21.1]) (st' := []) (g' := q21.2) k189_139 rfl rfl ?_
              refine q_s (pc' := 144) (ls' := [vR 137, vI l1, vI l2, vI l3, vI (iw (l4 + 1)), vI (iw (l5 + 0)), vI (iw (l6 + 1)), vI q21.1]) (st' := []) (g' := q21.2) k189_141 rfl rfl ?_
              refine q_s (pc' := 51) (ls' := [vR 137, vI l1, vI l2, vI l3, vI (iw (l4 + 1)), vI (iw (l5 + 0)), vI (iw (l6 + 1)), vI q21.1]) (st' := []) (g' := q21.2) k189_144 rfl rfl ?_
              rfl
            · refine q_s (pc' := 131) (ls' := [vR 137, vI l1, vI l2, vI l3, vI (iw (l4 + 1)), vI l5, vI l6, vI q21.1]) (st' := [vI 60, vI l5]) (g' := q21.2) k189_129 rfl rfl ?_
              refine q_s (pc' := 133) (ls' := [vR 137, vI l1, vI l2, vI l3, vI (iw (l4 + 1)), vI l5, vI l6, vI q21.1]) (st' := [vI q21.1, vI 60, vI l5]) (g' := q21.2) k189_131 rfl rfl ?_
              refine q_idiv (pc' := 134) rfl k189_133 rfl (fun _ => ?_)
              refine q_s (pc' := 138) (ls' := [vR 137, vI l1, vI l2, vI l3, vI (iw (l4 + 1)), vI l5, vI l6, vI q21.1]) (st' := [vI (iw ((60 : Int).tdiv q21.1)), vI l5]) (g' := q21.2) k189_134 rfl rfl ?_
              refine q_s (pc' := 139) (ls' := [vR 137, vI l1, vI l2, vI l3, vI (iw (l4 + 1)), vI l5, vI l6, vI q21.1]) (st' := [vI (iw (l5 + (iw ((60 : Int).tdiv q21.1))))]) (g' := q21.2) k189_138 rfl rfl ?_
              refine q_s (pc' := 141) (ls' := [vR 137, vI l1, vI l2, vI l3, vI (iw (l4 + 1)), vI (iw (l5 + (iw ((60 : Int).tdiv q21.1)))), vI l6, vI q21.1]) (st' := []) (g' := q21.2) k189_139 rfl rfl ?_
              refine q_s (pc' := 144) (ls' := [vR 137, vI l1, vI l2, vI l3, vI (iw (l4 + 1)), vI (iw (l5 + (iw ((60 : Int).tdiv q21.1)))), vI (iw (l6 + 1)), vI q21.1]) (st' := []) (g' := q21.2) k189_141 rfl rfl ?_
              refine q_s (pc' := 51) (ls' := [vR 137, vI l1, vI l2, vI l3, vI (iw (l4 + 1)), vI (iw (l5 + (iw ((60 : Int).tdiv q21.1)))), vI (iw (l6 + 1)), vI q21.1]) (st' := []) (g' := q21.2) k189_144 rfl rfl ?_
              rfl
          · refine q_s (pc' := 117) (ls' := [vR 137, vI l1, vI l2, vI l3, vI (iw (l4 + 1)), vI l5, vI l6, vI q21.1]) (st' := [vI q21.1]) (g' := q21.2) k189_115 rfl rfl ?_
            refine q_s (pc' := 121) (ls' := [vR 137, vI l1, vI l2, vI l3, vI (iw (l4 + 1)), vI l5, vI l6, vI q21.1]) (st' := [vI q21.1]) (g' := q21.2) k189_117 rfl rfl ?_
            refine q_s (pc' := 122) (ls' := [vR 137, vI l1, vI l2, vI q21.1, vI (iw (l4 + 1)), vI l5, vI l6, vI q21.1]) (st' := []) (g' := q21.2) k189_121 rfl rfl ?_
            refine q_s (pc' := 124) (ls' := [vR 137, vI l1, vI l2, vI q21.1, vI (iw (l4 + 1)), vI l5, vI l6, vI q21.1]) (st' := [vI l5]) (g' := q21.2) k189_122 rfl rfl ?_
            refine q_s (pc' := 126) (ls' := [vR 137, vI l1, vI l2, vI q21.1, vI (iw (l4 + 1)), vI l5, vI l6, vI q21.1]) (st' := [vI q21.1, vI l5]) (g' := q21.2) k189_124 rfl rfl ?_
            refine q_if (P := q21.1 ≤ 0) (t := 137) (pc' := 129) k189_126 Iff.rfl rfl rfl (fun h33 => ?_) (fun h33 => ?_)
            · refine q_s (pc' := 138) (ls' := [vR 137, vI l1, vI l2, vI q21.1, vI (iw (l4 + 1)), vI l5, vI l6, vI q21.1]) (st' := [vI 0, vI l5]) (g' := q21.2) k189_137 rfl rfl ?_
              refine q_s (pc' := 139) (ls' := [vR 137, vI l1, vI l2, vI q21.1, vI (iw (l4 + 1)), vI l5, vI l6, vI q21.1]) (st' := [vI (iw (l5 + 0))]) (g' := q21.2) k189_138 rfl rfl ?_
              refine q_s (pc' := 141) (ls' := [vR 137, vI l1, vI l2, vI q21.1, vI (iw (l4 + 1)), vI (iw (l5 + 0)), vI l6, vI q21.1]) (st' := []) (g' := q21.2) k189_139 rfl rfl ?_
              refine q_s (pc' := 144) (ls' := [vR 137, vI l1, vI l2, vI q21.1, vI (iw (l4 + 1)), vI (iw (l5 + 0)), vI (iw (l6 + 1)), vI q21.1]) (st' := []) (g' := q21.2) k189_141 rfl rfl ?_
              refine q_s (pc' := 51) (ls' := [vR 137, vI l1, vI l2, vI q21.1, vI (iw (l4 + 1)), vI (iw (l5 + 0)), vI (iw (l6 + 1)), vI q21.1]) (st' := []) (g' := q21.2) k189_144 rfl rfl ?_
              rfl
            · refine q_s (pc' := 131) (ls' := [vR 137, vI l1, vI l2, vI q21.1, vI (iw (l4 + 1)), vI l5, vI l6, vI q21.1]) (st' := [vI 60, vI l5]) (g' := q21.2) k189_129 rfl rfl ?_
              refine q_s (pc' := 133) (ls' := [vR 137, vI l1, vI l2, vI q21.1, vI (iw (l4 + 1)), vI l5, vI l6, vI q21.1]) (st' := [vI q21.1, vI 60, vI l5]) (g' := q21.2) k189_131 rfl rfl ?_
              refine q_idiv (pc' := 134) rfl k189_133 rfl (fun _ => ?_)
              refine q_s (pc' := 138) (ls' := [vR 137, vI l1, vI l2, vI q21.1, vI (iw (l4 + 1)), vI l5, vI l6, vI q21.1]) (st' := [vI (iw ((60 : Int).tdiv q21.1)), vI l5]) (g' := q21.2) k189_134 rfl rfl ?_
              refine q_s (pc' := 139) (ls' := [vR 137, vI l1, vI l2, vI q21.1, vI (iw (l4 + 1)), vI l5, vI l6, vI q21.1]) (st' := [vI (iw (l5 + (iw ((60 : Int).tdiv q21.1))))]) (g' := q21.2) k189_138 rfl rfl ?_
              refine q_s (pc' := 141) (ls' := [vR 137, vI l1, vI l2, vI q21.1, vI (iw (l4 + 1)), vI (iw (l5 + (iw ((60 : Int).tdiv q21.1)))), vI l6, vI q21.1]) (st' := []) (g' := q21.2) k189_139 rfl rfl ?_
              refine q_s (pc' := 144) (ls' := [vR 137, vI l1, vI l2, vI q21.1, vI (iw (l4 + 1)), vI (iw (l5 + (iw ((60 : Int).tdiv q21.1)))), vI (iw (l6 + 1)), vI q21.1]) (st' := []) (g' := q21.2) k189_141 rfl rfl ?_
              refine q_s (pc' := 51) (ls' := [vR 137, vI l1, vI l2, vI q21.1, vI (iw (l4 + 1)), vI (iw (l5 + (iw ((60 : Int).tdiv q21.1)))), vI (iw (l6 + 1)), vI q21.1]) (st' := []) (g' := q21.2) k189_144 rfl rfl ?_
              rfl
set_option maxHeartbeats 4000000 in
theorem jM_cheapest_eq (L : Nat) (a1 : Int) (a2 : Int) (g : AMem) : jM_cheapest L a1 a2 g = (jM_isEdge L a1 g).bind (fun q1 => if q1.1 = 0 then ((jM_bad L q1.2).bind (fun q3 => some (q3.1, q3.2))) else ((jM_in L a2 0 1 q1.2).bind (fun q4 => if q4.1 ≠ 0 then ((jM_isClear L a1 q4.2).bind (fun q6 => if q6.1 ≠ 0 then (jM_cheapest_46 L a1 a2 (-201) 1048576 0 vU q6.2) else ((jM_no L q6.2).bind (fun q8 => some (q8.1, q8.2))))) else ((jM_bad L q4.2).bind (fun q9 => some (q9.1, q9.2)))))) := by
  unfold jM_cheapest
  refine q_s (pc' := 1) (ls' := [vR 137, vI a1, vI a2, vU, vU, vU, vU]) (st' := [vR 137]) (g' := g) k190_0 rfl rfl ?_
  refine q_s (pc' := 2) (ls' := [vR 137, vI a1, vI a2, vU, vU, vU, vU]) (st' := [vI a1, vR 137]) (g' := g) k190_1 rfl rfl ?_
  refine q_callI (ls0 := [vR 137, vI a1]) (rest := []) (pc' := 5) rfl k190_2 rfl (hy4 rfl rfl rfl rfl) rfl rfl hq_144 rfl (fun q1 => ?_)
  refine q_if (P := q1.1 = 0) (t := 17) (pc' := 8) k190_5 Iff.rfl rfl rfl (fun h2 => ?_) (fun h2 => ?_)
  · refine q_s (pc' := 18) (ls' := [vR 137, vI a1, vI a2, vU, vU, vU, vU]) (st' := [vR 137]) (g' := q1.2) k190_17 rfl rfl ?_
    refine q_callI (ls0 := [vR 137]) (rest := []) (pc' := 21) rfl k190_18 rfl (hy4 rfl rfl rfl rfl) rfl rfl hq_133 rfl (fun q3 => ?_)
    exact q_e k190_21 rfl rfl rfl
  · refine q_s (pc' := 9) (ls' := [vR 137, vI a1, vI a2, vU, vU, vU, vU]) (st' := [vI a2]) (g' := q1.2) k190_8 rfl rfl ?_
    refine q_s (pc' := 10) (ls' := [vR 137, vI a1, vI a2, vU, vU, vU, vU]) (st' := [vI 0, vI a2]) (g' := q1.2) k190_9 rfl rfl ?_
    refine q_s (pc' := 11) (ls' := [vR 137, vI a1, vI a2, vU, vU, vU, vU]) (st' := [vI 1, vI 0, vI a2]) (g' := q1.2) k190_10 rfl rfl ?_
    refine q_callI (ls0 := [vI a2, vI 0, vI 1]) (rest := []) (pc' := 14) rfl k190_11 rfl (hy4 rfl rfl rfl rfl) rfl rfl hq_136 rfl (fun q4 => ?_)
    refine q_if (P := q4.1 ≠ 0) (t := 22) (pc' := 17) k190_14 Iff.rfl rfl rfl (fun h5 => ?_) (fun h5 => ?_)
    · refine q_s (pc' := 23) (ls' := [vR 137, vI a1, vI a2, vU, vU, vU, vU]) (st' := [vR 137]) (g' := q4.2) k190_22 rfl rfl ?_
      refine q_s (pc' := 24) (ls' := [vR 137, vI a1, vI a2, vU, vU, vU, vU]) (st' := [vI a1, vR 137]) (g' := q4.2) k190_23 rfl rfl ?_
      refine q_callI (ls0 := [vR 137, vI a1, vU, vU]) (rest := []) (pc' := 27) rfl k190_24 rfl (hy4 rfl rfl rfl rfl) rfl rfl hq_165 rfl (fun q6 => ?_)
      refine q_if (P := q6.1 ≠ 0) (t := 35) (pc' := 30) k190_27 Iff.rfl rfl rfl (fun h7 => ?_) (fun h7 => ?_)
      · refine q_s (pc' := 38) (ls' := [vR 137, vI a1, vI a2, vU, vU, vU, vU]) (st' := [vI (-201)]) (g' := q6.2) k190_35 rfl rfl ?_
        refine q_s (pc' := 39) (ls' := [vR 137, vI a1, vI a2, vI (-201), vU, vU, vU]) (st' := []) (g' := q6.2) k190_38 rfl rfl ?_
        refine q_s (pc' := 41) (ls' := [vR 137, vI a1, vI a2, vI (-201), vU, vU, vU]) (st' := [vI 1048576]) (g' := q6.2) k190_39 rfl rfl ?_
        refine q_s (pc' := 43) (ls' := [vR 137, vI a1, vI a2, vI (-201), vI 1048576, vU, vU]) (st' := []) (g' := q6.2) k190_41 rfl rfl ?_
        refine q_s (pc' := 44) (ls' := [vR 137, vI a1, vI a2, vI (-201), vI 1048576, vU, vU]) (st' := [vI 0]) (g' := q6.2) k190_43 rfl rfl ?_
        refine q_s (pc' := 46) (ls' := [vR 137, vI a1, vI a2, vI (-201), vI 1048576, vI 0, vU]) (st' := []) (g' := q6.2) k190_44 rfl rfl ?_
        rfl
      · refine q_s (pc' := 31) (ls' := [vR 137, vI a1, vI a2, vU, vU, vU, vU]) (st' := [vR 137]) (g' := q6.2) k190_30 rfl rfl ?_
        refine q_callI (ls0 := [vR 137]) (rest := []) (pc' := 34) rfl k190_31 rfl (hy4 rfl rfl rfl rfl) rfl rfl hq_134 rfl (fun q8 => ?_)
        exact q_e k190_34 rfl rfl rfl
    · refine q_s (pc' := 18) (ls' := [vR 137, vI a1, vI a2, vU, vU, vU, vU]) (st' := [vR 137]) (g' := q4.2) k190_17 rfl rfl ?_
      refine q_callI (ls0 := [vR 137]) (rest := []) (pc' := 21) rfl k190_18 rfl (hy4 rfl rfl rfl rfl) rfl rfl hq_133 rfl (fun q9 => ?_)
      exact q_e k190_21 rfl rfl rfl
set_option maxHeartbeats 4000000 in
theorem jM_cheapest_46_eq (L : Nat) (l1 : Int) (l2 : Int) (l3 : Int) (l4 : Int) (l5 : Int) (w6 : AVal) (g : AMem) : jM_cheapest_46 L l1 l2 l3 l4 l5 w6 g = if 5 ≤ l5 then (if l2 ≠ 0 then (some (l4, g)) else (some (l3, g))) else ((jM_costBy L l1 l5 g).bind (fun q12 => if l4 ≤ q12.1 then (if l4 ≤ q12.1 then (jM_cheapest_46 L l1 l2 l3 l4 (iw (l5 + 1)) (vI q12.1) q12.2) else (jM_cheapest_46 L l1 l2 l3 q12.1 (iw (l5 + 1)) (vI q12.1) q12.2)) else (if l4 ≤ q12.1 then (jM_cheapest_46 L l1 l2 l5 l4 (iw (l5 + 1)) (vI q12.1) q12.2) else (jM_cheapest_46 L l1 l2 l5 q12.1 (iw (l5 + 1)) (vI q12.1) q12.2)))) := by
  unfold jM_cheapest_46
  refine q_s (pc' := 48) (ls' := [vR 137, vI l1, vI l2, vI l3, vI l4, vI l5, w6]) (st' := [vI l5]) (g' := g) k190_46 rfl rfl ?_
  refine q_s (pc' := 49) (ls' := [vR 137, vI l1, vI l2, vI l3, vI l4, vI l5, w6]) (st' := [vI 5, vI l5]) (g' := g) k190_48 rfl rfl ?_
  refine q_ic (P := 5 ≤ l5) (t := 97) (pc' := 52) k190_49 Iff.rfl rfl rfl (fun h10 => ?_) (fun h10 => ?_)
  · refine q_s (pc' := 98) (ls' := [vR 137, vI l1, vI l2, vI l3, vI l4, vI l5, w6]) (st' := [vI l2]) (g' := g) k190_97 rfl rfl ?_
    refine q_if (P := l2 ≠ 0) (t := 105) (pc' := 101) k190_98 Iff.rfl rfl rfl (fun h11 => ?_) (fun h11 => ?_)
    · refine q_s (pc' := 107) (ls' := [vR 137, vI l1, vI l2, vI l3, vI l4, vI l5, w6]) (st' := [vI l4]) (g' := g) k190_105 rfl rfl ?_
      exact q_e k190_107 rfl rfl rfl
    · refine q_s (pc' := 102) (ls' := [vR 137, vI l1, vI l2, vI l3, vI l4, vI l5, w6]) (st' := [vI l3]) (g' := g) k190_101 rfl rfl ?_
      refine q_s (pc' := 107) (ls' := [vR 137, vI l1, vI l2, vI l3, vI l4, vI l5, w6]) (st' := [vI l3]) (g' := g) k190_102 rfl rfl ?_
      exact q_e k190_107 rfl rfl rfl
  · refine q_s (pc' := 53) (ls' := [vR 137, vI l1, vI l2, vI l3, vI l4, vI l5, w6]) (st' := [vR 137]) (g' := g) k190_52 rfl rfl ?_
    refine q_s (pc' := 54) (ls' := [vR 137, vI l1, vI l2, vI l3, vI l4, vI l5, w6]) (st' := [vI l1, vR 137]) (g' := g) k190_53 rfl rfl ?_
    refine q_s (pc' := 56) (ls' := [vR 137, vI l1, vI l2, vI l3, vI l4, vI l5, w6]) (st' := [vI l5, vI l1, vR 137]) (g' := g) k190_54 rfl rfl ?_
    refine q_callI (ls0 := [vR 137, vI l1, vI l5, vU, vU, vU]) (rest := []) (pc' := 59) rfl k190_56 rfl (hy4 rfl rfl rfl rfl) rfl rfl hq_182 rfl (fun q12 => ?_)
    refine q_s (pc' := 61) (ls' := [vR 137, vI l1, vI l2, vI l3, vI l4, vI l5, vI q12.1]) (st' := []) (g' := q12.2) k190_59 rfl rfl ?_
    refine q_s (pc' := 63) (ls' := [vR 137, vI l1, vI l2, vI l3, vI l4, vI l5, vI q12.1]) (st' := [vI q12.1]) (g' := q12.2) k190_61 rfl rfl ?_
    refine q_s (pc' := 65) (ls' := [vR 137, vI l1, vI l2, vI l3, vI l4, vI l5, vI q12.1]) (st' := [vI l4, vI q12.1]) (g' := q12.2) k190_63 rfl rfl ?_
    refine q_ic (P := l4 ≤ q12.1) (t := 73) (pc' := 68) k190_65 Iff.rfl rfl rfl (fun h13 => ?_) (fun h13 => ?_)
    · refine q_s (pc' := 74) (ls' := [vR 137, vI l1, vI l2, vI l3, vI l4, vI l5, vI q12.1]) (st' := [vI l3]) (g' := q12.2) k190_73 rfl rfl ?_
      refine q_s (pc' := 75) (ls' := [vR 137, vI l1, vI l2, vI l3, vI l4, vI l5, vI q12.1]) (st' := []) (g' := q12.2) k190_74 rfl rfl ?_
      refine q_s (pc' := 77) (ls' := [vR 137, vI l1, vI l2, vI l3, vI l4, vI l5, vI q12.1]) (st' := [vI q12.1]) (g' := q12.2) k190_75 rfl rfl ?_
      refine q_s (pc' := 79) (ls' := [vR 137, vI l1, vI l2, vI l3, vI l4, vI l5, vI q12.1]) (st' := [vI l4, vI q12.1]) (g' := q12.2) k190_77 rfl rfl ?_
      refine q_ic (P := l4 ≤ q12.1) (t := 87) (pc' := 82) k190_79 Iff.rfl rfl rfl (fun h14 => ?_) (fun h14 => ?_)
      · refine q_s (pc' := 89) (ls' := [vR 137, vI l1, vI l2, vI l3, vI l4, vI l5, vI q12.1]) (st' := [vI l4]) (g' := q12.2) k190_87 rfl rfl ?_
        refine q_s (pc' := 91) (ls' := [vR 137, vI l1, vI l2, vI l3, vI l4, vI l5, vI q12.1]) (st' := []) (g' := q12.2) k190_89 rfl rfl ?_
        refine q_s (pc' := 94) (ls' := [vR 137, vI l1, vI l2, vI l3, vI l4, vI (iw (l5 + 1)), vI q12.1]) (st' := []) (g' := q12.2) k190_91 rfl rfl ?_
        refine q_s (pc' := 46) (ls' := [vR 137, vI l1, vI l2, vI l3, vI l4, vI (iw (l5 + 1)), vI q12.1]) (st' := []) (g' := q12.2) k190_94 rfl rfl ?_
        rfl
      · refine q_s (pc' := 84) (ls' := [vR 137, vI l1, vI l2, vI l3, vI l4, vI l5, vI q12.1]) (st' := [vI q12.1]) (g' := q12.2) k190_82 rfl rfl ?_
        refine q_s (pc' := 89) (ls' := [vR 137, vI l1, vI l2, vI l3, vI l4, vI l5, vI q12.1]) (st' := [vI q12.1]) (g' := q12.2) k190_84 rfl rfl ?_
        refine q_s (pc' := 91) (ls' := [vR 137, vI l1, vI l2, vI l3, vI q12.1, vI l5, vI q12.1]) (st' := []) (g' := q12.2) k190_89 rfl rfl ?_
        refine q_s (pc' := 94) (ls' := [vR 137, vI l1, vI l2, vI l3, vI q12.1, vI (iw (l5 + 1)), vI q12.1]) (st' := []) (g' := q12.2) k190_91 rfl rfl ?_
        refine q_s (pc' := 46) (ls' := [vR 137, vI l1, vI l2, vI l3, vI q12.1, vI (iw (l5 + 1)), vI q12.1]) (st' := []) (g' := q12.2) k190_94 rfl rfl ?_
        rfl
    · refine q_s (pc' := 70) (ls' := [vR 137, vI l1, vI l2, vI l3, vI l4, vI l5, vI q12.1]) (st' := [vI l5]) (g' := q12.2) k190_68 rfl rfl ?_
      refine q_s (pc' := 74) (ls' := [vR 137, vI l1, vI l2, vI l3, vI l4, vI l5, vI q12.1]) (st' := [vI l5]) (g' := q12.2) k190_70 rfl rfl ?_
      refine q_s (pc' := 75) (ls' := [vR 137, vI l1, vI l2, vI l5, vI l4, vI l5, vI q12.1]) (st' := []) (g' := q12.2) k190_74 rfl rfl ?_
      refine q_s (pc' := 77) (ls' := [vR 137, vI l1, vI l2, vI l5, vI l4, vI l5, vI q12.1]) (st' := [vI q12.1]) (g' := q12.2) k190_75 rfl rfl ?_
      refine q_s (pc' := 79) (ls' := [vR 137, vI l1, vI l2, vI l5, vI l4, vI l5, vI q12.1]) (st' := [vI l4, vI q12.1]) (g' := q12.2) k190_77 rfl rfl ?_
      refine q_ic (P := l4 ≤ q12.1) (t := 87) (pc' := 82) k190_79 Iff.rfl rfl rfl (fun h15 => ?_) (fun h15 => ?_)
      · refine q_s (pc' := 89) (ls' := [vR 137, vI l1, vI l2, vI l5, vI l4, vI l5, vI q12.1]) (st' := [vI l4]) (g' := q12.2) k190_87 rfl rfl ?_
        refine q_s (pc' := 91) (ls' := [vR 137, vI l1, vI l2, vI l5, vI l4, vI l5, vI q12.1]) (st' := []) (g' := q12.2) k190_89 rfl rfl ?_
        refine q_s (pc' := 94) (ls' := [vR 137, vI l1, vI l2, vI l5, vI l4, vI (iw (l5 + 1)), vI q12.1]) (st' := []) (g' := q12.2) k190_91 rfl rfl ?_
        refine q_s (pc' := 46) (ls' := [vR 137, vI l1, vI l2, vI l5, vI l4, vI (iw (l5 + 1)), vI q12.1]) (st' := []) (g' := q12.2) k190_94 rfl rfl ?_
        rfl
      · refine q_s (pc' := 84) (ls' := [vR 137, vI l1, vI l2, vI l5, vI l4, vI l5, vI q12.1]) (st' := [vI q12.1]) (g' := q12.2) k190_82 rfl rfl ?_
        refine q_s (pc' := 89) (ls' := [vR 137, vI l1, vI l2, vI l5, vI l4, vI l5, vI q12.1]) (st' := [vI q12.1]) (g' := q12.2) k190_84 rfl rfl ?_
        refine q_s (pc' := 91) (ls' := [vR 137, vI l1, vI l2, vI l5, vI q12.1, vI l5, vI q12.1]) (st' := []) (g' := q12.2) k190_89 rfl rfl ?_
        refine q_s (pc' := 94) (ls' := [vR 137, vI l1, vI l2, vI l5, vI q12.1, vI (iw (l5 + 1)), vI q12.1]) (st' := []) (g' := q12.2) k190_91 rfl rfl ?_
        refine q_s (pc' := 46) (ls' := [vR 137, vI l1, vI l2, vI l5, vI q12.1, vI (iw (l5 + 1)), vI q12.1]) (st' := []) (g' := q12.2) k190_94 rfl rfl ?_
        rfl
set_option maxHeartbeats 4000000 in
theorem jM_free_eq (L : Nat) (a1 : Int) (a2 : Int) (g : AMem) : jM_free L a1 a2 g = (jM_isEdge L a1 g).bind (fun q1 => if q1.1 = 0 then ((jM_bad L q1.2).bind (fun q3 => some (q3.1, q3.2))) else ((jM_isWidth L a2 q1.2).bind (fun q4 => if q4.1 ≠ 0 then (jM_free_22 L a1 a2 0 vU vU q4.2) else ((jM_bad L q4.2).bind (fun q6 => some (q6.1, q6.2)))))) := by
  unfold jM_free
  refine q_s (pc' := 1) (ls' := [vR 137, vI a1, vI a2, vU, vU, vU]) (st' := [vR 137]) (g' := g) k191_0 rfl rfl ?_
  refine q_s (pc' := 2) (ls' := [vR 137, vI a1, vI a2, vU, vU, vU]) (st' := [vI a1, vR 137]) (g' := g) k191_1 rfl rfl ?_
  refine q_callI (ls0 := [vR 137, vI a1]) (rest := []) (pc' := 5) rfl k191_2 rfl (hy4 rfl rfl rfl rfl) rfl rfl hq_144 rfl (fun q1 => ?_)
  refine q_if (P := q1.1 = 0) (t := 15) (pc' := 8) k191_5 Iff.rfl rfl rfl (fun h2 => ?_) (fun h2 => ?_)
  · refine q_s (pc' := 16) (ls' := [vR 137, vI a1, vI a2, vU, vU, vU]) (st' := [vR 137]) (g' := q1.2) k191_15 rfl rfl ?_
    refine q_callI (ls0 := [vR 137]) (rest := []) (pc' := 19) rfl k191_16 rfl (hy4 rfl rfl rfl rfl) rfl rfl hq_133 rfl (fun q3 => ?_)
    exact q_e k191_19 rfl rfl rfl
  · refine q_s (pc' := 9) (ls' := [vR 137, vI a1, vI a2, vU, vU, vU]) (st' := [vI a2]) (g' := q1.2) k191_8 rfl rfl ?_
    refine q_callI (ls0 := [vI a2]) (rest := []) (pc' := 12) rfl k191_9 rfl (hy4 rfl rfl rfl rfl) rfl rfl hq_139 rfl (fun q4 => ?_)
    refine q_if (P := q4.1 ≠ 0) (t := 20) (pc' := 15) k191_12 Iff.rfl rfl rfl (fun h5 => ?_) (fun h5 => ?_)
    · refine q_s (pc' := 21) (ls' := [vR 137, vI a1, vI a2, vU, vU, vU]) (st' := [vI 0]) (g' := q4.2) k191_20 rfl rfl ?_
      refine q_s (pc' := 22) (ls' := [vR 137, vI a1, vI a2, vI 0, vU, vU]) (st' := []) (g' := q4.2) k191_21 rfl rfl ?_
      rfl
    · refine q_s (pc' := 16) (ls' := [vR 137, vI a1, vI a2, vU, vU, vU]) (st' := [vR 137]) (g' := q4.2) k191_15 rfl rfl ?_
      refine q_callI (ls0 := [vR 137]) (rest := []) (pc' := 19) rfl k191_16 rfl (hy4 rfl rfl rfl rfl) rfl rfl hq_133 rfl (fun q6 => ?_)
      exact q_e k191_19 rfl rfl rfl
set_option maxHeartbeats 4000000 in
theorem jM_free_22_eq (L : Nat) (l1 : Int) (l2 : Int) (l3 : Int) (w4 : AVal) (w5 : AVal) (g : AMem) : jM_free_22 L l1 l2 l3 w4 w5 g = if 32 ≤ l3 then (some ((-201), g)) else (jM_free_34 L l1 l2 l3 1 0 g) := by
  unfold jM_free_22
  refine q_s (pc' := 23) (ls' := [vR 137, vI l1, vI l2, vI l3, w4, w5]) (st' := [vI l3]) (g' := g) k191_22 rfl rfl ?_
  refine q_s (pc' := 25) (ls' := [vR 137, vI l1, vI l2, vI l3, w4, w5]) (st' := [vI 32, vI l3]) (g' := g) k191_23 rfl rfl ?_
  refine q_ic (P := 32 ≤ l3) (t := 129) (pc' := 28) k191_25 Iff.rfl rfl rfl (fun h7 => ?_) (fun h7 => ?_)
  · refine q_s (pc' := 132) (ls' := [vR 137, vI l1, vI l2, vI l3, w4, w5]) (st' := [vI (-201)]) (g' := g) k191_129 rfl rfl ?_
    exact q_e k191_132 rfl rfl rfl
  · refine q_s (pc' := 29) (ls' := [vR 137, vI l1, vI l2, vI l3, w4, w5]) (st' := [vI 1]) (g' := g) k191_28 rfl rfl ?_
    refine q_s (pc' := 31) (ls' := [vR 137, vI l1, vI l2, vI l3, vI 1, w5]) (st' := []) (g' := g) k191_29 rfl rfl ?_
    refine q_s (pc' := 32) (ls' := [vR 137, vI l1, vI l2, vI l3, vI 1, w5]) (st' := [vI 0]) (g' := g) k191_31 rfl rfl ?_
    refine q_s (pc' := 34) (ls' := [vR 137, vI l1, vI l2, vI l3, vI 1, vI 0]) (st' := []) (g' := g) k191_32 rfl rfl ?_
    rfl
set_option maxHeartbeats 4000000 in
theorem jM_free_34_eq (L : Nat) (l1 : Int) (l2 : Int) (l3 : Int) (l4 : Int) (l5 : Int) (g : AMem) : jM_free_34 L l1 l2 l3 l4 l5 g = (jM_manyOf L l1 g).bind (fun q8 => if q8.1 ≤ l5 then (if l4 = 0 then (jM_free_22 L l1 l2 (iw (l3 + l2)) (vI l4) (vI l5) q8.2) else (some (iw ((iw (10 * l3)) + l2), q8.2))) else (if l4 = 0 then (jM_free_34 L l1 l2 l3 0 (iw (l5 + 1)) q8.2) else ((jM_parameterOf L l1 l5 q8.2).bind (fun q12 => (jM_meet L q12.1 (iw ((iw (10 * l3)) + l2)) q12.2).bind (fun q13 => if q13.1 ≠ 0 then (jM_free_34 L l1 l2 l3 0 (iw (l5 + 1)) q13.2) else ((jM_givenOf L l1 l5 q13.2).bind (fun q15 => if q15.1 < 0 then (jM_free_34 L l1 l2 l3 1 (iw (l5 + 1)) q15.2) else ((jM_givenOf L l1 l5 q15.2).bind (fun q17 => (jM_meet L q17.1 (iw ((iw (10 * l3)) + l2)) q17.2).bind (fun q18 => if q18.1 ≠ 0 then (jM_free_34 L l1 l2 l3 0 (iw (l5 + 1)) q18.2) else (jM_free_34 L l1 l2 l3 1 (iw (l5 + 1)) q18.2))))))))))) := by
  unfold jM_free_34
  refine q_s (pc' := 36) (ls' := [vR 137, vI l1, vI l2, vI l3, vI l4, vI l5]) (st' := [vI l5]) (g' := g) k191_34 rfl rfl ?_
  refine q_s (pc' := 37) (ls' := [vR 137, vI l1, vI l2, vI l3, vI l4, vI l5]) (st' := [vR 137, vI l5]) (g' := g) k191_36 rfl rfl ?_
  refine q_s (pc' := 38) (ls' := [vR 137, vI l1, vI l2, vI l3, vI l4, vI l5]) (st' := [vI l1, vR 137, vI l5]) (g' := g) k191_37 rfl rfl ?_
  refine q_callI (ls0 := [vR 137, vI l1]) (rest := [vI l5]) (pc' := 41) rfl k191_38 rfl (hy4 rfl rfl rfl rfl) rfl rfl hq_146 rfl (fun q8 => ?_)
  refine q_ic (P := q8.1 ≤ l5) (t := 110) (pc' := 44) k191_41 Iff.rfl rfl rfl (fun h9 => ?_) (fun h9 => ?_)
  · refine q_s (pc' := 112) (ls' := [vR 137, vI l1, vI l2, vI l3, vI l4, vI l5]) (st' := [vI l4]) (g' := q8.2) k191_110 rfl rfl ?_
    refine q_if (P := l4 = 0) (t := 122) (pc' := 115) k191_112 Iff.rfl rfl rfl (fun h10 => ?_) (fun h10 => ?_)
    · refine q_s (pc' := 123) (ls' := [vR 137, vI l1, vI l2, vI l3, vI l4, vI l5]) (st' := [vI l3]) (g' := q8.2) k191_122 rfl rfl ?_
      refine q_s (pc' := 124) (ls' := [vR 137, vI l1, vI l2, vI l3, vI l4, vI l5]) (st' := [vI l2, vI l3]) (g' := q8.2) k191_123 rfl rfl ?_
      refine q_s (pc' := 125) (ls' := [vR 137, vI l1, vI l2, vI l3, vI l4, vI l5]) (st' := [vI (iw (l3 + l2))]) (g' := q8.2) k191_124 rfl rfl ?_
      refine q_s (pc' := 126) (ls' := [vR 137, vI l1, vI l2, vI (iw (l3 + l2)), vI l4, vI l5]) (st' := []) (g' := q8.2) k191_125 rfl rfl ?_
      refine q_s (pc' := 22) (ls' := [vR 137, vI l1, vI l2, vI (iw (l3 + l2)), vI l4, vI l5]) (st' := []) (g' := q8.2) k191_126 rfl rfl ?_
      rfl
    · refine q_s (pc' := 117) (ls' := [vR 137, vI l1, vI l2, vI l3, vI l4, vI l5]) (st' := [vI 10]) (g' := q8.2) k191_115 rfl rfl ?_
      refine q_s (pc' := 118) (ls' := [vR 137, vI l1, vI l2, vI l3, vI l4, vI l5]) (st' := [vI l3, vI 10]) (g' := q8.2) k191_117 rfl rfl ?_
      refine q_s (pc' := 119) (ls' := [vR 137, vI l1, vI l2, vI l3, vI l4, vI l5]) (st' := [vI (iw (10 * l3))]) (g' := q8.2) k191_118 rfl rfl ?_
      refine q_s (pc' := 120) (ls' := [vR 137, vI l1, vI l2, vI l3, vI l4, vI l5]) (st' := [vI l2, vI (iw (10 * l3))]) (g' := q8.2) k191_119 rfl rfl ?_
      refine q_s (pc' := 121) (ls' := [vR 137, vI l1, vI l2, vI l3, vI l4, vI l5]) (st' := [vI (iw ((iw (10 * l3)) + l2))]) (g' := q8.2) k191_120 rfl rfl ?_
      exact q_e k191_121 rfl rfl rfl
  · refine q_s (pc' := 46) (ls' := [vR 137, vI l1, vI l2, vI l3, vI l4, vI l5]) (st' := [vI l4]) (g' := q8.2) k191_44 rfl rfl ?_
    refine q_if (P := l4 = 0) (t := 101) (pc' := 49) k191_46 Iff.rfl rfl rfl (fun h11 => ?_) (fun h11 => ?_)
    · refine q_s (pc' := 102) (ls' := [vR 137, vI l1, vI l2, vI l3, vI l4, vI l5]) (st' := [vI 0]) (g' := q8.2) k191_101 rfl rfl ?_
      refine q_s (pc' := 104) (ls' := [vR 137, vI l1, vI l2, vI l3, vI 0, vI l5]) (st' := []) (g' := q8.2) k191_102 rfl rfl ?_
      refine q_s (pc' := 107) (ls' := [vR 137, vI l1, vI l2, vI l3, vI 0, vI (iw (l5 + 1))]) (st' := []) (g' := q8.2) k191_104 rfl rfl ?_
      refine q_s (pc' := 34) (ls' := [vR 137, vI l1, vI l2, vI l3, vI 0, vI (iw (l5 + 1))]) (st' := []) (g' := q8.2) k191_107 rfl rfl ?_
      rfl
    · refine q_s (pc' := 50) (ls' := [vR 137, vI l1, vI l2, vI l3, vI l4, vI l5]) (st' := [vR 137]) (g' := q8.2) k191_49 rfl rfl ?_
      refine q_s (pc' := 51) (ls' := [vR 137, vI l1, vI l2, vI l3, vI l4, vI l5]) (st' := [vI l1, vR 137]) (g' := q8.2) k191_50 rfl rfl ?_
      refine q_s (pc' := 53) (ls' := [vR 137, vI l1, vI l2, vI l3, vI l4, vI l5]) (st' := [vI l5, vI l1, vR 137]) (g' := q8.2) k191_51 rfl rfl ?_
      refine q_callI (ls0 := [vR 137, vI l1, vI l5]) (rest := []) (pc' := 56) rfl k191_53 rfl (hy4 rfl rfl rfl rfl) rfl rfl hq_145 rfl (fun q12 => ?_)
      refine q_s (pc' := 58) (ls' := [vR 137, vI l1, vI l2, vI l3, vI l4, vI l5]) (st' := [vI 10, vI q12.1]) (g' := q12.2) k191_56 rfl rfl ?_
      refine q_s (pc' := 59) (ls' := [vR 137, vI l1, vI l2, vI l3, vI l4, vI l5]) (st' := [vI l3, vI 10, vI q12.1]) (g' := q12.2) k191_58 rfl rfl ?_
      refine q_s (pc' := 60) (ls' := [vR 137, vI l1, vI l2, vI l3, vI l4, vI l5]) (st' := [vI (iw (10 * l3)), vI q12.1]) (g' := q12.2) k191_59 rfl rfl ?_
      refine q_s (pc' := 61) (ls' := [vR 137, vI l1, vI l2, vI l3, vI l4, vI l5]) (st' := [vI l2, vI (iw (10 * l3)), vI q12.1]) (g' := q12.2) k191_60 rfl rfl ?_
      refine q_s (pc' := 62) (ls' := [vR 137, vI l1, vI l2, vI l3, vI l4, vI l5]) (st' := [vI (iw ((iw (10 * l3)) + l2)), vI q12.1]) (g' := q12.2) k191_61 rfl rfl ?_
      refine q_callI (ls0 := [vI q12.1, vI (iw ((iw (10 * l3)) + l2))]) (rest := []) (pc' := 65) rfl k191_62 rfl (hy4 rfl rfl rfl rfl) rfl rfl hq_141 rfl (fun q13 => ?_)
      refine q_if (P := q13.1 ≠ 0) (t := 101) (pc' := 68) k191_65 Iff.rfl rfl rfl (fun h14 => ?_) (fun h14 => ?_)
      · refine q_s (pc' := 102) (ls' := [vR 137, vI l1, vI l2, vI l3, vI l4, vI l5]) (st' := [vI 0]) (g' := q13.2) k191_101 rfl rfl ?_
        refine q_s (pc' := 104) (ls' := [vR 137, vI l1, vI l2, vI l3, vI 0, vI l5]) (st' := []) (g' := q13.2) k191_102 rfl rfl ?_
        refine q_s (pc' := 107) (ls' := [vR 137, vI l1, vI l2, vI l3, vI 0, vI (iw (l5 + 1))]) (st' := []) (g' := q13.2) k191_104 rfl rfl ?_
        refine q_s (pc' := 34) (ls' := [vR 137, vI l1, vI l2, vI l3, vI 0, vI (iw (l5 + 1))]) (st' := []) (g' := q13.2) k191_107 rfl rfl ?_
        rfl
      · refine q_s (pc' := 69) (ls' := [vR 137, vI l1, vI l2, vI l3, vI l4, vI l5]) (st' := [vR 137]) (g' := q13.2) k191_68 rfl rfl ?_
        refine q_s (pc' := 70) (ls' := [vR 137, vI l1, vI l2, vI l3, vI l4, vI l5]) (st' := [vI l1, vR 137]) (g' := q13.2) k191_69 rfl rfl ?_
        refine q_s (pc' := 72) (ls' := [vR 137, vI l1, vI l2, vI l3, vI l4, vI l5]) (st' := [vI l5, vI l1, vR 137]) (g' := q13.2) k191_70 rfl rfl ?_
        refine q_callI (ls0 := [vR 137, vI l1, vI l5]) (rest := []) (pc' := 75) rfl k191_72 rfl (hy4 rfl rfl rfl rfl) rfl rfl hq_147 rfl (fun q15 => ?_)
        refine q_if (P := q15.1 < 0) (t := 97) (pc' := 78) k191_75 Iff.rfl rfl rfl (fun h16 => ?_) (fun h16 => ?_)
        · refine q_s (pc' := 98) (ls' := [vR 137, vI l1, vI l2, vI l3, vI l4, vI l5]) (st' := [vI 1]) (g' := q15.2) k191_97 rfl rfl ?_
          refine q_s (pc' := 102) (ls' := [vR 137, vI l1, vI l2, vI l3, vI l4, vI l5]) (st' := [vI 1]) (g' := q15.2) k191_98 rfl rfl ?_
          refine q_s (pc' := 104) (ls' := [vR 137, vI l1, vI l2, vI l3, vI 1, vI l5]) (st' := []) (g' := q15.2) k191_102 rfl rfl ?_
          refine q_s (pc' := 107) (ls' := [vR 137, vI l1, vI l2, vI l3, vI 1, vI (iw (l5 + 1))]) (st' := []) (g' := q15.2) k191_104 rfl rfl ?_
          refine q_s (pc' := 34) (ls' := [vR 137, vI l1, vI l2, vI l3, vI 1, vI (iw (l5 + 1))]) (st' := []) (g' := q15.2) k191_107 rfl rfl ?_
          rfl
        · refine q_s (pc' := 79) (ls' := [vR 137, vI l1, vI l2, vI l3, vI l4, vI l5]) (st' := [vR 137]) (g' := q15.2) k191_78 rfl rfl ?_
          refine q_s (pc' := 80) (ls' := [vR 137, vI l1, vI l2, vI l3, vI l4, vI l5]) (st' := [vI l1, vR 137]) (g' := q15.2) k191_79 rfl rfl ?_
          refine q_s (pc' := 82) (ls' := [vR 137, vI l1, vI l2, vI l3, vI l4, vI l5]) (st' := [vI l5, vI l1, vR 137]) (g' := q15.2) k191_80 rfl rfl ?_
          refine q_callI (ls0 := [vR 137, vI l1, vI l5]) (rest := []) (pc' := 85) rfl k191_82 rfl (hy4 rfl rfl rfl rfl) rfl rfl hq_147 rfl (fun q17 => ?_)
          refine q_s (pc' := 87) (ls' := [vR 137, vI l1, vI l2, vI l3, vI l4, vI l5]) (st' := [vI 10, vI q17.1]) (g' := q17.2) k191_85 rfl rfl ?_
          refine q_s (pc' := 88) (ls' := [vR 137, vI l1, vI l2, vI l3, vI l4, vI l5]) (st' := [vI l3, vI 10, vI q17.1]) (g' := q17.2) k191_87 rfl rfl ?_
          refine q_s (pc' := 89) (ls' := [vR 137, vI l1, vI l2, vI l3, vI l4, vI l5]) (st' := [vI (iw (10 * l3)), vI q17.1]) (g' := q17.2) k191_88 rfl rfl ?_
          refine q_s (pc' := 90) (ls' := [vR 137, vI l1, vI l2, vI l3, vI l4, vI l5]) (st' := [vI l2, vI (iw (10 * l3)), vI q17.1]) (g' := q17.2) k191_89 rfl rfl ?_
          refine q_s (pc' := 91) (ls' := [vR 137, vI l1, vI l2, vI l3, vI l4, vI l5]) (st' := [vI (iw ((iw (10 * l3)) + l2)), vI q17.1]) (g' := q17.2) k191_90 rfl rfl ?_
          refine q_callI (ls0 := [vI q17.1, vI (iw ((iw (10 * l3)) + l2))]) (rest := []) (pc' := 94) rfl k191_91 rfl (hy4 rfl rfl rfl rfl) rfl rfl hq_141 rfl (fun q18 => ?_)
          refine q_if (P := q18.1 ≠ 0) (t := 101) (pc' := 97) k191_94 Iff.rfl rfl rfl (fun h19 => ?_) (fun h19 => ?_)
          · refine q_s (pc' := 102) (ls' := [vR 137, vI l1, vI l2, vI l3, vI l4, vI l5]) (st' := [vI 0]) (g' := q18.2) k191_101 rfl rfl ?_
            refine q_s (pc' := 104) (ls' := [vR 137, vI l1, vI l2, vI l3, vI 0, vI l5]) (st' := []) (g' := q18.2) k191_102 rfl rfl ?_
            refine q_s (pc' := 107) (ls' := [vR 137, vI l1, vI l2, vI l3, vI 0, vI (iw (l5 + 1))]) (st' := []) (g' := q18.2) k191_104 rfl rfl ?_
            refine q_s (pc' := 34) (ls' := [vR 137, vI l1, vI l2, vI l3, vI 0, vI (iw (l5 + 1))]) (st' := []) (g' := q18.2) k191_107 rfl rfl ?_
            rfl
          · refine q_s (pc' := 98) (ls' := [vR 137, vI l1, vI l2, vI l3, vI l4, vI l5]) (st' := [vI 1]) (g' := q18.2) k191_97 rfl rfl ?_
            refine q_s (pc' := 102) (ls' := [vR 137, vI l1, vI l2, vI l3, vI l4, vI l5]) (st' := [vI 1]) (g' := q18.2) k191_98 rfl rfl ?_
            refine q_s (pc' := 104) (ls' := [vR 137, vI l1, vI l2, vI l3, vI 1, vI l5]) (st' := []) (g' := q18.2) k191_102 rfl rfl ?_
            refine q_s (pc' := 107) (ls' := [vR 137, vI l1, vI l2, vI l3, vI 1, vI (iw (l5 + 1))]) (st' := []) (g' := q18.2) k191_104 rfl rfl ?_
            refine q_s (pc' := 34) (ls' := [vR 137, vI l1, vI l2, vI l3, vI 1, vI (iw (l5 + 1))]) (st' := []) (g' := q18.2) k191_107 rfl rfl ?_
            rfl
set_option maxHeartbeats 4000000 in
theorem jM_asOther_eq (L : Nat) (g : AMem) : jM_asOther L g = jM_asOther_10 L 0 (up g 137 16 (g 137 10)) := by
  unfold jM_asOther
  refine q_s (pc' := 1) (ls' := [vR 137, vU]) (st' := [vR 137]) (g' := g) k192_0 rfl rfl ?_
  refine q_s (pc' := 2) (ls' := [vR 137, vU]) (st' := [vR 137, vR 137]) (g' := g) k192_1 rfl rfl ?_
  refine q_getI (w := 10) (pc' := 5) k192_2 rfl rfl rfl rfl ?_
  refine q_putI (w := 16) (pc' := 8) k192_5 rfl rfl rfl rfl ?_
  refine q_s (pc' := 9) (ls' := [vR 137, vU]) (st' := [vI 0]) (g' := up g 137 16 (g 137 10)) k192_8 rfl rfl ?_
  refine q_s (pc' := 10) (ls' := [vR 137, vI 0]) (st' := []) (g' := up g 137 16 (g 137 10)) k192_9 rfl rfl ?_
  rfl
set_option maxHeartbeats 4000000 in
theorem jM_asOther_10_eq (L : Nat) (l1 : Int) (g : AMem) : jM_asOther_10 L l1 g = if g 137 10 ≤ l1 then (some g) else (if 0 ≤ l1 ∧ l1 < 24 then (if 0 ≤ l1 ∧ l1 < 24 then (if 0 ≤ l1 ∧ l1 < 24 then (if 0 ≤ l1 ∧ l1 < 24 then (if 0 ≤ l1 ∧ l1 < 24 then (if 0 ≤ l1 ∧ l1 < 24 then (jM_asOther_10 L (iw (l1 + 1)) (up (up (up g 150 l1 (g 145 l1)) 151 l1 ((up g 150 l1 (g 145 l1)) 146 l1)) 152 l1 ((up (up g 150 l1 (g 145 l1)) 151 l1 ((up g 150 l1 (g 145 l1)) 146 l1)) 147 l1))) else none) else none) else none) else none) else none) else none) := by
  unfold jM_asOther_10
  refine q_s (pc' := 11) (ls' := [vR 137, vI l1]) (st' := [vI l1]) (g' := g) k192_10 rfl rfl ?_
  refine q_s (pc' := 12) (ls' := [vR 137, vI l1]) (st' := [vR 137, vI l1]) (g' := g) k192_11 rfl rfl ?_
  refine q_getI (w := 10) (pc' := 15) k192_12 rfl rfl rfl rfl ?_
  refine q_ic (P := g 137 10 ≤ l1) (t := 60) (pc' := 18) k192_15 Iff.rfl rfl rfl (fun h1 => ?_) (fun h1 => ?_)
  · exact q_e k192_60 rfl rfl rfl
  · refine q_s (pc' := 19) (ls' := [vR 137, vI l1]) (st' := [vR 137]) (g' := g) k192_18 rfl rfl ?_
    refine q_getF (r := 150) (pc' := 22) k192_19 rfl rfl rfl rfl ?_
    refine q_s (pc' := 23) (ls' := [vR 137, vI l1]) (st' := [vI l1, vR 150]) (g' := g) k192_22 rfl rfl ?_
    refine q_s (pc' := 24) (ls' := [vR 137, vI l1]) (st' := [vR 137, vI l1, vR 150]) (g' := g) k192_23 rfl rfl ?_
    refine q_getF (r := 145) (pc' := 27) k192_24 rfl rfl rfl rfl ?_
    refine q_s (pc' := 28) (ls' := [vR 137, vI l1]) (st' := [vI l1, vR 145, vI l1, vR 150]) (g' := g) k192_27 rfl rfl ?_
    refine q_iald (n := 24) (pc' := 29) rfl k192_28 rfl rfl (fun h2 => ?_)
    refine q_iast (n := 24) (pc' := 30) rfl k192_29 rfl (by decide) rfl (fun h3 => ?_)
    refine q_s (pc' := 31) (ls' := [vR 137, vI l1]) (st' := [vR 137]) (g' := up g 150 l1 (g 145 l1)) k192_30 rfl rfl ?_
    refine q_getF (r := 151) (pc' := 34) k192_31 rfl rfl rfl rfl ?_
    refine q_s (pc' := 35) (ls' := [vR 137, vI l1]) (st' := [vI l1, vR 151]) (g' := up g 150 l1 (g 145 l1)) k192_34 rfl rfl ?_
    refine q_s (pc' := 36) (ls' := [vR 137, vI l1]) (st' := [vR 137, vI l1, vR 151]) (g' := up g 150 l1 (g 145 l1)) k192_35 rfl rfl ?_
    refine q_getF (r := 146) (pc' := 39) k192_36 rfl rfl rfl rfl ?_
    refine q_s (pc' := 40) (ls' := [vR 137, vI l1]) (st' := [vI l1, vR 146, vI l1, vR 151]) (g' := up g 150 l1 (g 145 l1)) k192_39 rfl rfl ?_
    refine q_iald (n := 24) (pc' := 41) rfl k192_40 rfl rfl (fun h4 => ?_)
    refine q_iast (n := 24) (pc' := 42) rfl k192_41 rfl (by decide) rfl (fun h5 => ?_)
    refine q_s (pc' := 43) (ls' := [vR 137, vI l1]) (st' := [vR 137]) (g' := up (up g 150 l1 (g 145 l1)) 151 l1 ((up g 150 l1 (g 145 l1)) 146 l1)) k192_42 rfl rfl ?_
    refine q_getF (r := 152) (pc' := 46) k192_43 rfl rfl rfl rfl ?_
    refine q_s (pc' := 47) (ls' := [vR 137, vI l1]) (st' := [vI l1, vR 152]) (g' := up (up g 150 l1 (g 145 l1)) 151 l1 ((up g 150 l1 (g 145 l1)) 146 l1)) k192_46 rfl rfl ?_
    refine q_s (pc' := 48) (ls' := [vR 137, vI l1]) (st' := [vR 137, vI l1, vR 152]) (g' := up (up g 150 l1 (g 145 l1)) 151 l1 ((up g 150 l1 (g 145 l1)) 146 l1)) k192_47 rfl rfl ?_
    refine q_getF (r := 147) (pc' := 51) k192_48 rfl rfl rfl rfl ?_
    refine q_s (pc' := 52) (ls' := [vR 137, vI l1]) (st' := [vI l1, vR 147, vI l1, vR 152]) (g' := up (up g 150 l1 (g 145 l1)) 151 l1 ((up g 150 l1 (g 145 l1)) 146 l1)) k192_51 rfl rfl ?_
    refine q_iald (n := 24) (pc' := 53) rfl k192_52 rfl rfl (fun h6 => ?_)
    refine q_iast (n := 24) (pc' := 54) rfl k192_53 rfl (by decide) rfl (fun h7 => ?_)
    refine q_s (pc' := 57) (ls' := [vR 137, vI (iw (l1 + 1))]) (st' := []) (g' := up (up (up g 150 l1 (g 145 l1)) 151 l1 ((up g 150 l1 (g 145 l1)) 146 l1)) 152 l1 ((up (up g 150 l1 (g 145 l1)) 151 l1 ((up g 150 l1 (g 145 l1)) 146 l1)) 147 l1)) k192_54 rfl rfl ?_
    refine q_s (pc' := 10) (ls' := [vR 137, vI (iw (l1 + 1))]) (st' := []) (g' := up (up (up g 150 l1 (g 145 l1)) 151 l1 ((up g 150 l1 (g 145 l1)) 146 l1)) 152 l1 ((up (up g 150 l1 (g 145 l1)) 151 l1 ((up g 150 l1 (g 145 l1)) 146 l1)) 147 l1)) k192_57 rfl rfl ?_
    rfl
set_option maxHeartbeats 4000000 in
theorem jM_sameBack_eq (L : Nat) (g : AMem) : jM_sameBack L g = jM_sameBack_4 L 0 1 vU vU g := by
  unfold jM_sameBack
  refine q_s (pc' := 1) (ls' := [vR 137, vU, vU, vU, vU]) (st' := [vI 0]) (g' := g) k193_0 rfl rfl ?_
  refine q_s (pc' := 2) (ls' := [vR 137, vI 0, vU, vU, vU]) (st' := []) (g' := g) k193_1 rfl rfl ?_
  refine q_s (pc' := 3) (ls' := [vR 137, vI 0, vU, vU, vU]) (st' := [vI 1]) (g' := g) k193_2 rfl rfl ?_
  refine q_s (pc' := 4) (ls' := [vR 137, vI 0, vI 1, vU, vU]) (st' := []) (g' := g) k193_3 rfl rfl ?_
  rfl
set_option maxHeartbeats 4000000 in
theorem jM_sameBack_4_eq (L : Nat) (l1 : Int) (l2 : Int) (w3 : AVal) (w4 : AVal) (g : AMem) : jM_sameBack_4 L l1 l2 w3 w4 g = if l2 = 0 then (some (l1, g)) else (if g 137 10 ≤ l1 then (some (l1, g)) else (if g 137 16 ≤ l1 then (some (l1, g)) else (if 0 ≤ iw ((iw ((g 137 10) - 1)) - l1) ∧ iw ((iw ((g 137 10) - 1)) - l1) < 24 then (if 0 ≤ iw ((iw ((g 137 16) - 1)) - l1) ∧ iw ((iw ((g 137 16) - 1)) - l1) < 24 then (if g 145 (iw ((iw ((g 137 10) - 1)) - l1)) ≠ g 150 (iw ((iw ((g 137 16) - 1)) - l1)) then (jM_sameBack_4 L (iw (l1 + 0)) 0 (vI (iw ((iw ((g 137 10) - 1)) - l1))) (vI (iw ((iw ((g 137 16) - 1)) - l1))) g) else (if 0 ≤ iw ((iw ((g 137 10) - 1)) - l1) ∧ iw ((iw ((g 137 10) - 1)) - l1) < 24 then (if 0 ≤ iw ((iw ((g 137 16) - 1)) - l1) ∧ iw ((iw ((g 137 16) - 1)) - l1) < 24 then (if g 146 (iw ((iw ((g 137 10) - 1)) - l1)) ≠ g 151 (iw ((iw ((g 137 16) - 1)) - l1)) then (jM_sameBack_4 L (iw (l1 + 0)) 0 (vI (iw ((iw ((g 137 10) - 1)) - l1))) (vI (iw ((iw ((g 137 16) - 1)) - l1))) g) else (if 0 ≤ iw ((iw ((g 137 10) - 1)) - l1) ∧ iw ((iw ((g 137 10) - 1)) - l1) < 24 then (if 0 ≤ iw ((iw ((g 137 16) - 1)) - l1) ∧ iw ((iw ((g 137 16) - 1)) - l1) < 24 then (if g 147 (iw ((iw ((g 137 10) - 1)) - l1)) ≠ g 152 (iw ((iw ((g 137 16) - 1)) - l1)) then (jM_sameBack_4 L (iw (l1 + 0)) 0 (vI (iw ((iw ((g 137 10) - 1)) - l1))) (vI (iw ((iw ((g 137 16) - 1)) - l1))) g) else (jM_sameBack_4 L (iw (l1 + 1)) 1 (vI (iw ((iw ((g 137 10) - 1)) - l1))) (vI (iw ((iw ((g 137 16) - 1)) - l1))) g)) else none) else none)) else none) else none)) else none) else none))) := by
  unfold jM_sameBack_4
  refine q_s (pc' := 5) (ls' := [vR 137, vI l1, vI l2, w3, w4]) (st' := [vI l2]) (g' := g) k193_4 rfl rfl ?_
  refine q_if (P := l2 = 0) (t := 112) (pc' := 8) k193_5 Iff.rfl rfl rfl (fun h1 => ?_) (fun h1 => ?_)
  · refine q_s (pc' := 113) (ls' := [vR 137, vI l1, vI l2, w3, w4]) (st' := [vI l1]) (g' := g) k193_112 rfl rfl ?_
    exact q_e k193_113 rfl rfl rfl
  · refine q_s (pc' := 9) (ls' := [vR 137, vI l1, vI l2, w3, w4]) (st' := [vI l1]) (g' := g) k193_8 rfl rfl ?_
    refine q_s (pc' := 10) (ls' := [vR 137, vI l1, vI l2, w3, w4]) (st' := [vR 137, vI l1]) (g' := g) k193_9 rfl rfl ?_
    refine q_getI (w := 10) (pc' := 13) k193_10 rfl rfl rfl rfl ?_
    refine q_ic (P := g 137 10 ≤ l1) (t := 112) (pc' := 16) k193_13 Iff.rfl rfl rfl (fun h2 => ?_) (fun h2 => ?_)
    · refine q_s (pc' := 113) (ls' := [vR 137, vI l1, vI l2, w3, w4]) (st' := [vI l1]) (g' := g) k193_112 rfl rfl ?_
      exact q_e k193_113 rfl rfl rfl
    · refine q_s (pc' := 17) (ls' := [vR 137, vI l1, vI l2, w3, w4]) (st' := [vI l1]) (g' := g) k193_16 rfl rfl ?_
      refine q_s (pc' := 18) (ls' := [vR 137, vI l1, vI l2, w3, w4]) (st' := [vR 137, vI l1]) (g' := g) k193_17 rfl rfl ?_
      refine q_getI (w := 16) (pc' := 21) k193_18 rfl rfl rfl rfl ?_
      refine q_ic (P := g 137 16 ≤ l1) (t := 112) (pc' := 24) k193_21 Iff.rfl rfl rfl (fun h3 => ?_) (fun h3 => ?_)
      · refine q_s (pc' := 113) (ls' := [vR 137, vI l1, vI l2, w3, w4]) (st' := [vI l1]) (g' := g) k193_112 rfl rfl ?_
        exact q_e k193_113 rfl rfl rfl
      · refine q_s (pc' := 25) (ls' := [vR 137, vI l1, vI l2, w3, w4]) (st' := [vR 137]) (g' := g) k193_24 rfl rfl ?_
        refine q_getI (w := 10) (pc' := 28) k193_25 rfl rfl rfl rfl ?_
        refine q_s (pc' := 29) (ls' := [vR 137, vI l1, vI l2, w3, w4]) (st' := [vI 1, vI (g 137 10)]) (g' := g) k193_28 rfl rfl ?_
        refine q_s (pc' := 30) (ls' := [vR 137, vI l1, vI l2, w3, w4]) (st' := [vI (iw ((g 137 10) - 1))]) (g' := g) k193_29 rfl rfl ?_
        refine q_s (pc' := 31) (ls' := [vR 137, vI l1, vI l2, w3, w4]) (st' := [vI l1, vI (iw ((g 137 10) - 1))]) (g' := g) k193_30 rfl rfl ?_
        refine q_s (pc' := 32) (ls' := [vR 137, vI l1, vI l2, w3, w4]) (st' := [vI (iw ((iw ((g 137 10) - 1)) - l1))]) (g' := g) k193_31 rfl rfl ?_
        refine q_s (pc' := 33) (ls' := [vR 137, vI l1, vI l2, vI (iw ((iw ((g 137 10) - 1)) - l1)), w4]) (st' := []) (g' := g) k193_32 rfl rfl ?_
        refine q_s (pc' := 34) (ls' := [vR 137, vI l1, vI l2, vI (iw ((iw ((g 137 10) - 1)) - l1)), w4]) (st' := [vR 137]) (g' := g) k193_33 rfl rfl ?_
        refine q_getI (w := 16) (pc' := 37) k193_34 rfl rfl rfl rfl ?_
        refine q_s (pc' := 38) (ls' := [vR 137, vI l1, vI l2, vI (iw ((iw ((g 137 10) - 1)) - l1)), w4]) (st' := [vI 1, vI (g 137 16)]) (g' := g) k193_37 rfl rfl ?_
        refine q_s (pc' := 39) (ls' := [vR 137, vI l1, vI l2, vI (iw ((iw ((g 137 10) - 1)) - l1)), w4]) (st' := [vI (iw ((g 137 16) - 1))]) (g' := g) k193_38 rfl rfl ?_
        refine q_s (pc' := 40) (ls' := [vR 137, vI l1, vI l2, vI (iw ((iw ((g 137 10) - 1)) - l1)), w4]) (st' := [vI l1, vI (iw ((g 137 16) - 1))]) (g' := g) k193_39 rfl rfl ?_
        refine q_s (pc' := 41) (ls' := [vR 137, vI l1, vI l2, vI (iw ((iw ((g 137 10) - 1)) - l1)), w4]) (st' := [vI (iw ((iw ((g 137 16) - 1)) - l1))]) (g' := g) k193_40 rfl rfl ?_
        refine q_s (pc' := 43) (ls' := [vR 137, vI l1, vI l2, vI (iw ((iw ((g 137 10) - 1)) - l1)), vI (iw ((iw ((g 137 16) - 1)) - l1))]) (st' := []) (g' := g) k193_41 rfl rfl ?_
        refine q_s (pc' := 44) (ls' := [vR 137, vI l1, vI l2, vI (iw ((iw ((g 137 10) - 1)) - l1)), vI (iw ((iw ((g 137 16) - 1)) - l1))]) (st' := [vR 137]) (g' := g) k193_43 rfl rfl ?_
        refine q_getF (r := 145) (pc' := 47) k193_44 rfl rfl rfl rfl ?_
        refine q_s (pc' := 48) (ls' := [vR 137, vI l1, vI l2, vI (iw ((iw ((g 137 10) - 1)) - l1)), vI (iw ((iw ((g 137 16) - 1)) - l1))]) (st' := [vI (iw ((iw ((g 137 10) - 1)) - l1)), vR 145]) (g' := g) k193_47 rfl rfl ?_
        refine q_iald (n := 24) (pc' := 49) rfl k193_48 rfl rfl (fun h4 => ?_)
        refine q_s (pc' := 50) (ls' := [vR 137, vI l1, vI l2, vI (iw ((iw ((g 137 10) - 1)) - l1)), vI (iw ((iw ((g 137 16) - 1)) - l1))]) (st' := [vR 137, vI (g 145 (iw ((iw ((g 137 10) - 1)) - l1)))]) (g' := g) k193_49 rfl rfl ?_
        refine q_getF (r := 150) (pc' := 53) k193_50 rfl rfl rfl rfl ?_
        refine q_s (pc' := 55) (ls' := [vR 137, vI l1, vI l2, vI (iw ((iw ((g 137 10) - 1)) - l1)), vI (iw ((iw ((g 137 16) - 1)) - l1))]) (st' := [vI (iw ((iw ((g 137 16) - 1)) - l1)), vR 150, vI (g 145 (iw ((iw ((g 137 10) - 1)) - l1)))]) (g' := g) k193_53 rfl rfl ?_
        refine q_iald (n := 24) (pc' := 56) rfl k193_55 rfl rfl (fun h5 => ?_)
        refine q_ic (P := g 145 (iw ((iw ((g 137 10) - 1)) - l1)) ≠ g 150 (iw ((iw ((g 137 16) - 1)) - l1))) (t := 95) (pc' := 59) k193_56 Iff.rfl rfl rfl (fun h6 => ?_) (fun h6 => ?_)
        · refine q_s (pc' := 96) (ls' := [vR 137, vI l1, vI l2, vI (iw ((iw ((g 137 10) - 1)) - l1)), vI (iw ((iw ((g 137 16) - 1)) - l1))]) (st' := [vI 0]) (g' := g) k193_95 rfl rfl ?_
          refine q_s (pc' := 97) (ls' := [vR 137, vI l1, vI 0, vI (iw ((iw ((g 137 10) - 1)) - l1)), vI (iw ((iw ((g 137 16) - 1)) - l1))]) (st' := []) (g' := g) k193_96 rfl rfl ?_
          refine q_s (pc' := 98) (ls' := [vR 137, vI l1, vI 0, vI (iw ((iw ((g 137 10) - 1)) - l1)), vI (iw ((iw ((g 137 16) - 1)) - l1))]) (st' := [vI l1]) (g' := g) k193_97 rfl rfl ?_
          refine q_s (pc' := 99) (ls' := [vR 137, vI l1, vI 0, vI (iw ((iw ((g 137 10) - 1)) - l1)), vI (iw ((iw ((g 137 16) - 1)) - l1))]) (st' := [vI 0, vI l1]) (g' := g) k193_98 rfl rfl ?_
          refine q_s (pc' := 106) (ls' := [vR 137, vI l1, vI 0, vI (iw ((iw ((g 137 10) - 1)) - l1)), vI (iw ((iw ((g 137 16) - 1)) - l1))]) (st' := [vI l1]) (g' := g) k193_99 rfl rfl ?_
          refine q_s (pc' := 107) (ls' := [vR 137, vI l1, vI 0, vI (iw ((iw ((g 137 10) - 1)) - l1)), vI (iw ((iw ((g 137 16) - 1)) - l1))]) (st' := [vI 0, vI l1]) (g' := g) k193_106 rfl rfl ?_
          refine q_s (pc' := 108) (ls' := [vR 137, vI l1, vI 0, vI (iw ((iw ((g 137 10) - 1)) - l1)), vI (iw ((iw ((g 137 16) - 1)) - l1))]) (st' := [vI (iw (l1 + 0))]) (g' := g) k193_107 rfl rfl ?_
          refine q_s (pc' := 109) (ls' := [vR 137, vI (iw (l1 + 0)), vI 0, vI (iw ((iw ((g 137 10) - 1)) - l1)), vI (iw ((iw ((g 137 16) - 1)) - l1))]) (st' := []) (g' := g) k193_108 rfl rfl ?_
          refine q_s (pc' := 4) (ls' := [vR 137, vI (iw (l1 + 0)), vI 0, vI (iw ((iw ((g 137 10) - 1)) - l1)), vI (iw ((iw ((g 137 16) - 1)) - l1))]) (st' := []) (g' := g) k193_109 rfl rfl ?_
          rfl
        · refine q_s (pc' := 60) (ls' := [vR 137, vI l1, vI l2, vI (iw ((iw ((g 137 10) - 1)) - l1)), vI (iw ((iw ((g 137 16) - 1)) - l1))]) (st' := [vR 137]) (g' := g) k193_59 rfl rfl ?_
          refine q_getF (r := 146) (pc' := 63) k193_60 rfl rfl rfl rfl ?_
          refine q_s (pc' := 64) (ls' := [vR 137, vI l1, vI l2, vI (iw ((iw ((g 137 10) - 1)) - l1)), vI (iw ((iw ((g 137 16) - 1)) - l1))]) (st' := [vI (iw ((iw ((g 137 10) - 1)) - l1)), vR 146]) (g' := g) k193_63 rfl rfl ?_
          refine q_iald (n := 24) (pc' := 65) rfl k193_64 rfl rfl (fun h7 => ?_)
          refine q_s (pc' := 66) (ls' := [vR 137, vI l1, vI l2, vI (iw ((iw ((g 137 10) - 1)) - l1)), vI (iw ((iw ((g 137 16) - 1)) - l1))]) (st' := [vR 137, vI (g 146 (iw ((iw ((g 137 10) - 1)) - l1)))]) (g' := g) k193_65 rfl rfl ?_
          refine q_getF (r := 151) (pc' := 69) k193_66 rfl rfl rfl rfl ?_
          refine q_s (pc' := 71) (ls' := [vR 137, vI l1, vI l2, vI (iw ((iw ((g 137 10) - 1)) - l1)), vI (iw ((iw ((g 137 16) - 1)) - l1))]) (st' := [vI (iw ((iw ((g 137 16) - 1)) - l1)), vR 151, vI (g 146 (iw ((iw ((g 137 10) - 1)) - l1)))]) (g' := g) k193_69 rfl rfl ?_
          refine q_iald (n := 24) (pc' := 72) rfl k193_71 rfl rfl (fun h8 => ?_)
          refine q_ic (P := g 146 (iw ((iw ((g 137 10) - 1)) - l1)) ≠ g 151 (iw ((iw ((g 137 16) - 1)) - l1))) (t := 95) (pc' := 75) k193_72 Iff.rfl rfl rfl (fun h9 => ?_) (fun h9 => ?_)
          · refine q_s (pc' := 96) (ls' := [vR 137, vI l1, vI l2, vI (iw ((iw ((g 137 10) - 1)) - l1)), vI (iw ((iw ((g 137 16) - 1)) - l1))]) (st' := [vI 0]) (g' := g) k193_95 rfl rfl ?_
            refine q_s (pc' := 97) (ls' := [vR 137, vI l1, vI 0, vI (iw ((iw ((g 137 10) - 1)) - l1)), vI (iw ((iw ((g 137 16) - 1)) - l1))]) (st' := []) (g' := g) k193_96 rfl rfl ?_
            refine q_s (pc' := 98) (ls' := [vR 137, vI l1, vI 0, vI (iw ((iw ((g 137 10) - 1)) - l1)), vI (iw ((iw ((g 137 16) - 1)) - l1))]) (st' := [vI l1]) (g' := g) k193_97 rfl rfl ?_
            refine q_s (pc' := 99) (ls' := [vR 137, vI l1, vI 0, vI (iw ((iw ((g 137 10) - 1)) - l1)), vI (iw ((iw ((g 137 16) - 1)) - l1))]) (st' := [vI 0, vI l1]) (g' := g) k193_98 rfl rfl ?_
            refine q_s (pc' := 106) (ls' := [vR 137, vI l1, vI 0, vI (iw ((iw ((g 137 10) - 1)) - l1)), vI (iw ((iw ((g 137 16) - 1)) - l1))]) (st' := [vI l1]) (g' := g) k193_99 rfl rfl ?_
            refine q_s (pc' := 107) (ls' := [vR 137, vI l1, vI 0, vI (iw ((iw ((g 137 10) - 1)) - l1)), vI (iw ((iw ((g 137 16) - 1)) - l1))]) (st' := [vI 0, vI l1]) (g' := g) k193_106 rfl rfl ?_
            refine q_s (pc' := 108) (ls' := [vR 137, vI l1, vI 0, vI (iw ((iw ((g 137 10) - 1)) - l1)), vI (iw ((iw ((g 137 16) - 1)) - l1))]) (st' := [vI (iw (l1 + 0))]) (g' := g) k193_107 rfl rfl ?_
            refine q_s (pc' := 109) (ls' := [vR 137, vI (iw (l1 + 0)), vI 0, vI (iw ((iw ((g 137 10) - 1)) - l1)), vI (iw ((iw ((g 137 16) - 1)) - l1))]) (st' := []) (g' := g) k193_108 rfl rfl ?_
            refine q_s (pc' := 4) (ls' := [vR 137, vI (iw (l1 + 0)), vI 0, vI (iw ((iw ((g 137 10) - 1)) - l1)), vI (iw ((iw ((g 137 16) - 1)) - l1))]) (st' := []) (g' := g) k193_109 rfl rfl ?_
            rfl
          · refine q_s (pc' := 76) (ls' := [vR 137, vI l1, vI l2, vI (iw ((iw ((g 137 10) - 1)) - l1)), vI (iw ((iw ((g 137 16) - 1)) - l1))]) (st' := [vR 137]) (g' := g) k193_75 rfl rfl ?_
            refine q_getF (r := 147) (pc' := 79) k193_76 rfl rfl rfl rfl ?_
            refine q_s (pc' := 80) (ls' := [vR 137, vI l1, vI l2, vI (iw ((iw ((g 137 10) - 1)) - l1)), vI (iw ((iw ((g 137 16) - 1)) - l1))]) (st' := [vI (iw ((iw ((g 137 10) - 1)) - l1)), vR 147]) (g' := g) k193_79 rfl rfl ?_
            refine q_iald (n := 24) (pc' := 81) rfl k193_80 rfl rfl (fun h10 => ?_)
            refine q_s (pc' := 82) (ls' := [vR 137, vI l1, vI l2, vI (iw ((iw ((g 137 10) - 1)) - l1)), vI (iw ((iw ((g 137 16) - 1)) - l1))]) (st' := [vR 137, vI (g 147 (iw ((iw ((g 137 10) - 1)) - l1)))]) (g' := g) k193_81 rfl rfl ?_
            refine q_getF (r := 152) (pc' := 85) k193_82 rfl rfl rfl rfl ?_
            refine q_s (pc' := 87) (ls' := [vR 137, vI l1, vI l2, vI (iw ((iw ((g 137 10) - 1)) - l1)), vI (iw ((iw ((g 137 16) - 1)) - l1))]) (st' := [vI (iw ((iw ((g 137 16) - 1)) - l1)), vR 152, vI (g 147 (iw ((iw ((g 137 10) - 1)) - l1)))]) (g' := g) k193_85 rfl rfl ?_
            refine q_iald (n := 24) (pc' := 88) rfl k193_87 rfl rfl (fun h11 => ?_)
            refine q_ic (P := g 147 (iw ((iw ((g 137 10) - 1)) - l1)) ≠ g 152 (iw ((iw ((g 137 16) - 1)) - l1))) (t := 95) (pc' := 91) k193_88 Iff.rfl rfl rfl (fun h12 => ?_) (fun h12 => ?_)
            · refine q_s (pc' := 96) (ls' := [vR 137, vI l1, vI l2, vI (iw ((iw ((g 137 10) - 1)) - l1)), vI (iw ((iw ((g 137 16) - 1)) - l1))]) (st' := [vI 0]) (g' := g) k193_95 rfl rfl ?_
              refine q_s (pc' := 97) (ls' := [vR 137, vI l1, vI 0, vI (iw ((iw ((g 137 10) - 1)) - l1)), vI (iw ((iw ((g 137 16) - 1)) - l1))]) (st' := []) (g' := g) k193_96 rfl rfl ?_
              refine q_s (pc' := 98) (ls' := [vR 137, vI l1, vI 0, vI (iw ((iw ((g 137 10) - 1)) - l1)), vI (iw ((iw ((g 137 16) - 1)) - l1))]) (st' := [vI l1]) (g' := g) k193_97 rfl rfl ?_
              refine q_s (pc' := 99) (ls' := [vR 137, vI l1, vI 0, vI (iw ((iw ((g 137 10) - 1)) - l1)), vI (iw ((iw ((g 137 16) - 1)) - l1))]) (st' := [vI 0, vI l1]) (g' := g) k193_98 rfl rfl ?_
              refine q_s (pc' := 106) (ls' := [vR 137, vI l1, vI 0, vI (iw ((iw ((g 137 10) - 1)) - l1)), vI (iw ((iw ((g 137 16) - 1)) - l1))]) (st' := [vI l1]) (g' := g) k193_99 rfl rfl ?_
              refine q_s (pc' := 107) (ls' := [vR 137, vI l1, vI 0, vI (iw ((iw ((g 137 10) - 1)) - l1)), vI (iw ((iw ((g 137 16) - 1)) - l1))]) (st' := [vI 0, vI l1]) (g' := g) k193_106 rfl rfl ?_
              refine q_s (pc' := 108) (ls' := [vR 137, vI l1, vI 0, vI (iw ((iw ((g 137 10) - 1)) - l1)), vI (iw ((iw ((g 137 16) - 1)) - l1))]) (st' := [vI (iw (l1 + 0))]) (g' := g) k193_107 rfl rfl ?_
              refine q_s (pc' := 109) (ls' := [vR 137, vI (iw (l1 + 0)), vI 0, vI (iw ((iw ((g 137 10) - 1)) - l1)), vI (iw ((iw ((g 137 16) - 1)) - l1))]) (st' := []) (g' := g) k193_108 rfl rfl ?_
              refine q_s (pc' := 4) (ls' := [vR 137, vI (iw (l1 + 0)), vI 0, vI (iw ((iw ((g 137 10) - 1)) - l1)), vI (iw ((iw ((g 137 16) - 1)) - l1))]) (st' := []) (g' := g) k193_109 rfl rfl ?_
              rfl
            · refine q_s (pc' := 92) (ls' := [vR 137, vI l1, vI l2, vI (iw ((iw ((g 137 10) - 1)) - l1)), vI (iw ((iw ((g 137 16) - 1)) - l1))]) (st' := [vI 1]) (g' := g) k193_91 rfl rfl ?_
              refine q_s (pc' := 96) (ls' := [vR 137, vI l1, vI l2, vI (iw ((iw ((g 137 10) - 1)) - l1)), vI (iw ((iw ((g 137 16) - 1)) - l1))]) (st' := [vI 1]) (g' := g) k193_92 rfl rfl ?_
              refine q_s (pc' := 97) (ls' := [vR 137, vI l1, vI 1, vI (iw ((iw ((g 137 10) - 1)) - l1)), vI (iw ((iw ((g 137 16) - 1)) - l1))]) (st' := []) (g' := g) k193_96 rfl rfl ?_
              refine q_s (pc' := 98) (ls' := [vR 137, vI l1, vI 1, vI (iw ((iw ((g 137 10) - 1)) - l1)), vI (iw ((iw ((g 137 16) - 1)) - l1))]) (st' := [vI l1]) (g' := g) k193_97 rfl rfl ?_
              refine q_s (pc' := 99) (ls' := [vR 137, vI l1, vI 1, vI (iw ((iw ((g 137 10) - 1)) - l1)), vI (iw ((iw ((g 137 16) - 1)) - l1))]) (st' := [vI 1, vI l1]) (g' := g) k193_98 rfl rfl ?_
              refine q_s (pc' := 102) (ls' := [vR 137, vI l1, vI 1, vI (iw ((iw ((g 137 10) - 1)) - l1)), vI (iw ((iw ((g 137 16) - 1)) - l1))]) (st' := [vI l1]) (g' := g) k193_99 rfl rfl ?_
              refine q_s (pc' := 103) (ls' := [vR 137, vI l1, vI 1, vI (iw ((iw ((g 137 10) - 1)) - l1)), vI (iw ((iw ((g 137 16) - 1)) - l1))]) (st' := [vI 1, vI l1]) (g' := g) k193_102 rfl rfl ?_
              refine q_s (pc' := 107) (ls' := [vR 137, vI l1, vI 1, vI (iw ((iw ((g 137 10) - 1)) - l1)), vI (iw ((iw ((g 137 16) - 1)) - l1))]) (st' := [vI 1, vI l1]) (g' := g) k193_103 rfl rfl ?_
              refine q_s (pc' := 108) (ls' := [vR 137, vI l1, vI 1, vI (iw ((iw ((g 137 10) - 1)) - l1)), vI (iw ((iw ((g 137 16) - 1)) - l1))]) (st' := [vI (iw (l1 + 1))]) (g' := g) k193_107 rfl rfl ?_
              refine q_s (pc' := 109) (ls' := [vR 137, vI (iw (l1 + 1)), vI 1, vI (iw ((iw ((g 137 10) - 1)) - l1)), vI (iw ((iw ((g 137 16) - 1)) - l1))]) (st' := []) (g' := g) k193_108 rfl rfl ?_
              refine q_s (pc' := 4) (ls' := [vR 137, vI (iw (l1 + 1)), vI 1, vI (iw ((iw ((g 137 10) - 1)) - l1)), vI (iw ((iw ((g 137 16) - 1)) - l1))]) (st' := []) (g' := g) k193_109 rfl rfl ?_
              rfl
