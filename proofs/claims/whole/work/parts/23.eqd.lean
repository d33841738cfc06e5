set_option maxHeartbeats 4000000 in
theorem jM_tail_eq (L : Nat) (a1 : Int) (g : AMem) : jM_tail L a1 g = (jM_isBlock L a1 g).bind (fun q1 => if q1.1 ≠ 0 then (jM_tail_17 L a1 1 0 q1.2) else ((jM_bad L q1.2).bind (fun q3 => some (q3.1, q3.2)))) := by
  unfold jM_tail
  refine q_s (pc' := 1) (ls' := [vR 137, vI a1, vU, vU, vU, vU, vU]) (st' := [vR 137]) (g' := g) k196_0 rfl rfl ?_
  refine q_s (pc' := 2) (ls' := [vR 137, vI a1, vU, vU, vU, vU, vU]) (st' := [vI a1, vR 137]) (g' := g) k196_1 rfl rfl ?_
  refine q_callI (ls0 := [vR 137, vI a1]) (rest := []) (pc' := 5) rfl k196_2 rfl (hy4 rfl rfl rfl rfl) rfl rfl hq_145 rfl (fun q1 => ?_)
  refine q_if (P := q1.1 ≠ 0) (t := 13) (pc' := 8) k196_5 Iff.rfl rfl rfl (fun h2 => ?_) (fun h2 => ?_)
  · refine q_s (pc' := 14) (ls' := [vR 137, vI a1, vU, vU, vU, vU, vU]) (st' := [vI 1]) (g' := q1.2) k196_13 rfl rfl ?_
    refine q_s (pc' := 15) (ls' := [vR 137, vI a1, vI 1, vU, vU, vU, vU]) (st' := []) (g' := q1.2) k196_14 rfl rfl ?_
    refine q_s (pc' := 16) (ls' := [vR 137, vI a1, vI 1, vU, vU, vU, vU]) (st' := [vI 0]) (g' := q1.2) k196_15 rfl rfl ?_
    refine q_s (pc' := 17) (ls' := [vR 137, vI a1, vI 1, vI 0, vU, vU, vU]) (st' := []) (g' := q1.2) k196_16 rfl rfl ?_
    rfl
  · refine q_s (pc' := 9) (ls' := [vR 137, vI a1, vU, vU, vU, vU, vU]) (st' := [vR 137]) (g' := q1.2) k196_8 rfl rfl ?_
    refine q_callI (ls0 := [vR 137]) (rest := []) (pc' := 12) rfl k196_9 rfl (hy4 rfl rfl rfl rfl) rfl rfl hq_135 rfl (fun q3 => ?_)
    exact q_e k196_12 rfl rfl rfl
set_option maxHeartbeats 4000000 in
theorem jM_tail_17_eq (L : Nat) (l1 : Int) (l2 : Int) (l3 : Int) (g : AMem) : jM_tail_17 L l1 l2 l3 g = if g 137 2 ≤ l3 then (if l2 ≠ 0 then (jM_tail_76 L l1 l2 0 1 0 vU g) else ((jM_no L g).bind (fun q6 => some (q6.1, q6.2)))) else (if l2 = 0 then (jM_tail_17 L l1 0 (iw (l3 + 1)) g) else (if 0 ≤ l3 ∧ l3 < 16 then (if g 142 l3 ≠ l1 then (jM_tail_17 L l1 1 (iw (l3 + 1)) g) else ((jM_isClear L l3 g).bind (fun q10 => if q10.1 = 0 then (jM_tail_17 L l1 0 (iw (l3 + 1)) q10.2) else (jM_tail_17 L l1 1 (iw (l3 + 1)) q10.2)))) else none)) := by
  unfold jM_tail_17
  refine q_s (pc' := 18) (ls' := [vR 137, vI l1, vI l2, vI l3, vU, vU, vU]) (st' := [vI l3]) (g' := g) k196_17 rfl rfl ?_
  refine q_s (pc' := 19) (ls' := [vR 137, vI l1, vI l2, vI l3, vU, vU, vU]) (st' := [vR 137, vI l3]) (g' := g) k196_18 rfl rfl ?_
  refine q_getI (w := 2) (pc' := 22) k196_19 rfl rfl rfl rfl ?_
  refine q_ic (P := g 137 2 ≤ l3) (t := 59) (pc' := 25) k196_22 Iff.rfl rfl rfl (fun h4 => ?_) (fun h4 => ?_)
  · refine q_s (pc' := 60) (ls' := [vR 137, vI l1, vI l2, vI l3, vU, vU, vU]) (st' := [vI l2]) (g' := g) k196_59 rfl rfl ?_
    refine q_if (P := l2 ≠ 0) (t := 68) (pc' := 63) k196_60 Iff.rfl rfl rfl (fun h5 => ?_) (fun h5 => ?_)
    · refine q_s (pc' := 69) (ls' := [vR 137, vI l1, vI l2, vI l3, vU, vU, vU]) (st' := [vI 0]) (g' := g) k196_68 rfl rfl ?_
      refine q_s (pc' := 70) (ls' := [vR 137, vI l1, vI l2, vI 0, vU, vU, vU]) (st' := []) (g' := g) k196_69 rfl rfl ?_
      refine q_s (pc' := 71) (ls' := [vR 137, vI l1, vI l2, vI 0, vU, vU, vU]) (st' := [vI 1]) (g' := g) k196_70 rfl rfl ?_
      refine q_s (pc' := 73) (ls' := [vR 137, vI l1, vI l2, vI 0, vI 1, vU, vU]) (st' := []) (g' := g) k196_71 rfl rfl ?_
      refine q_s (pc' := 74) (ls' := [vR 137, vI l1, vI l2, vI 0, vI 1, vU, vU]) (st' := [vI 0]) (g' := g) k196_73 rfl rfl ?_
      refine q_s (pc' := 76) (ls' := [vR 137, vI l1, vI l2, vI 0, vI 1, vI 0, vU]) (st' := []) (g' := g) k196_74 rfl rfl ?_
      rfl
    · refine q_s (pc' := 64) (ls' := [vR 137, vI l1, vI l2, vI l3, vU, vU, vU]) (st' := [vR 137]) (g' := g) k196_63 rfl rfl ?_
      refine q_callI (ls0 := [vR 137]) (rest := []) (pc' := 67) rfl k196_64 rfl (hy4 rfl rfl rfl rfl) rfl rfl hq_136 rfl (fun q6 => ?_)
      exact q_e k196_67 rfl rfl rfl
  · refine q_s (pc' := 26) (ls' := [vR 137, vI l1, vI l2, vI l3, vU, vU, vU]) (st' := [vI l2]) (g' := g) k196_25 rfl rfl ?_
    refine q_if (P := l2 = 0) (t := 51) (pc' := 29) k196_26 Iff.rfl rfl rfl (fun h7 => ?_) (fun h7 => ?_)
    · refine q_s (pc' := 52) (ls' := [vR 137, vI l1, vI l2, vI l3, vU, vU, vU]) (st' := [vI 0]) (g' := g) k196_51 rfl rfl ?_
      refine q_s (pc' := 53) (ls' := [vR 137, vI l1, vI 0, vI l3, vU, vU, vU]) (st' := []) (g' := g) k196_52 rfl rfl ?_
      refine q_s (pc' := 56) (ls' := [vR 137, vI l1, vI 0, vI (iw (l3 + 1)), vU, vU, vU]) (st' := []) (g' := g) k196_53 rfl rfl ?_
      refine q_s (pc' := 17) (ls' := [vR 137, vI l1, vI 0, vI (iw (l3 + 1)), vU, vU, vU]) (st' := []) (g' := g) k196_56 rfl rfl ?_
      rfl
    · refine q_s (pc' := 30) (ls' := [vR 137, vI l1, vI l2, vI l3, vU, vU, vU]) (st' := [vR 137]) (g' := g) k196_29 rfl rfl ?_
      refine q_getF (r := 142) (pc' := 33) k196_30 rfl rfl rfl rfl ?_
      refine q_s (pc' := 34) (ls' := [vR 137, vI l1, vI l2, vI l3, vU, vU, vU]) (st' := [vI l3, vR 142]) (g' := g) k196_33 rfl rfl ?_
      refine q_iald (n := 16) (pc' := 35) rfl k196_34 rfl rfl (fun h8 => ?_)
      refine q_s (pc' := 36) (ls' := [vR 137, vI l1, vI l2, vI l3, vU, vU, vU]) (st' := [vI l1, vI (g 142 l3)]) (g' := g) k196_35 rfl rfl ?_
      refine q_ic (P := g 142 l3 ≠ l1) (t := 47) (pc' := 39) k196_36 Iff.rfl rfl rfl (fun h9 => ?_) (fun h9 => ?_)
      · refine q_s (pc' := 48) (ls' := [vR 137, vI l1, vI l2, vI l3, vU, vU, vU]) (st' := [vI 1]) (g' := g) k196_47 rfl rfl ?_
        refine q_s (pc' := 52) (ls' := [vR 137, vI l1, vI l2, vI l3, vU, vU, vU]) (st' := [vI 1]) (g' := g) k196_48 rfl rfl ?_
        refine q_s (pc' := 53) (ls' := [vR 137, vI l1, vI 1, vI l3, vU, vU, vU]) (st' := []) (g' := g) k196_52 rfl rfl ?_
        refine q_s (pc' := 56) (ls' := [vR 137, vI l1, vI 1, vI (iw (l3 + 1)), vU, vU, vU]) (st' := []) (g' := g) k196_53 rfl rfl ?_
        refine q_s (pc' := 17) (ls' := [vR 137, vI l1, vI 1, vI (iw (l3 + 1)), vU, vU, vU]) (st' := []) (g' := g) k196_56 rfl rfl ?_
        rfl
      · refine q_s (pc' := 40) (ls' := [vR 137, vI l1, vI l2, vI l3, vU, vU, vU]) (st' := [vR 137]) (g' := g) k196_39 rfl rfl ?_
        refine q_s (pc' := 41) (ls' := [vR 137, vI l1, vI l2, vI l3, vU, vU, vU]) (st' := [vI l3, vR 137]) (g' := g) k196_40 rfl rfl ?_
        refine q_callI (ls0 := [vR 137, vI l3, vU, vU]) (rest := []) (pc' := 44) rfl k196_41 rfl (hy4 rfl rfl rfl rfl) rfl rfl hq_167 rfl (fun q10 => ?_)
        refine q_if (P := q10.1 = 0) (t := 51) (pc' := 47) k196_44 Iff.rfl rfl rfl (fun h11 => ?_) (fun h11 => ?_)
        · refine q_s (pc' := 52) (ls' := [vR 137, vI l1, vI l2, vI l3, vU, vU, vU]) (st' := [vI 0]) (g' := q10.2) k196_51 rfl rfl ?_
          refine q_s (pc' := 53) (ls' := [vR 137, vI l1, vI 0, vI l3, vU, vU, vU]) (st' := []) (g' := q10.2) k196_52 rfl rfl ?_
          refine q_s (pc' := 56) (ls' := [vR 137, vI l1, vI 0, vI (iw (l3 + 1)), vU, vU, vU]) (st' := []) (g' := q10.2) k196_53 rfl rfl ?_
          refine q_s (pc' := 17) (ls' := [vR 137, vI l1, vI 0, vI (iw (l3 + 1)), vU, vU, vU]) (st' := []) (g' := q10.2) k196_56 rfl rfl ?_
          rfl
        · refine q_s (pc' := 48) (ls' := [vR 137, vI l1, vI l2, vI l3, vU, vU, vU]) (st' := [vI 1]) (g' := q10.2) k196_47 rfl rfl ?_
          refine q_s (pc' := 52) (ls' := [vR 137, vI l1, vI l2, vI l3, vU, vU, vU]) (st' := [vI 1]) (g' := q10.2) k196_48 rfl rfl ?_
          refine q_s (pc' := 53) (ls' := [vR 137, vI l1, vI 1, vI l3, vU, vU, vU]) (st' := []) (g' := q10.2) k196_52 rfl rfl ?_
          refine q_s (pc' := 56) (ls' := [vR 137, vI l1, vI 1, vI (iw (l3 + 1)), vU, vU, vU]) (st' := []) (g' := q10.2) k196_53 rfl rfl ?_
          refine q_s (pc' := 17) (ls' := [vR 137, vI l1, vI 1, vI (iw (l3 + 1)), vU, vU, vU]) (st' := []) (g' := q10.2) k196_56 rfl rfl ?_
          rfl
set_option maxHeartbeats 4000000 in
theorem jM_tail_76_eq (L : Nat) (l1 : Int) (l2 : Int) (l3 : Int) (l4 : Int) (l5 : Int) (w6 : AVal) (g : AMem) : jM_tail_76 L l1 l2 l3 l4 l5 w6 g = if g 137 2 ≤ l5 then (some (l3, g)) else (if 0 ≤ l5 ∧ l5 < 16 then (if g 142 l5 ≠ l1 then (jM_tail_76 L l1 l2 l3 l4 (iw (l5 + 1)) w6 g) else ((jM_setSteps L l5 (g 137 3) g).bind (fun q15 => if l4 = 0 then ((jM_sameBack L q15).bind (fun q17 => if l3 ≤ q17.1 then (jM_tail_76 L l1 l2 l3 l4 (iw (l5 + 1)) (vI q17.1) q17.2) else (jM_tail_76 L l1 l2 q17.1 l4 (iw (l5 + 1)) (vI q17.1) q17.2))) else ((jM_asOther L q15).bind (fun q19 => jM_tail_76 L l1 l2 (q19 137 10) 0 (iw (l5 + 1)) w6 q19))))) else none) := by
  unfold jM_tail_76
  refine q_s (pc' := 78) (ls' := [vR 137, vI l1, vI l2, vI l3, vI l4, vI l5, w6]) (st' := [vI l5]) (g' := g) k196_76 rfl rfl ?_
  refine q_s (pc' := 79) (ls' := [vR 137, vI l1, vI l2, vI l3, vI l4, vI l5, w6]) (st' := [vR 137, vI l5]) (g' := g) k196_78 rfl rfl ?_
  refine q_getI (w := 2) (pc' := 82) k196_79 rfl rfl rfl rfl ?_
  refine q_ic (P := g 137 2 ≤ l5) (t := 151) (pc' := 85) k196_82 Iff.rfl rfl rfl (fun h12 => ?_) (fun h12 => ?_)
  · refine q_s (pc' := 152) (ls' := [vR 137, vI l1, vI l2, vI l3, vI l4, vI l5, w6]) (st' := [vI l3]) (g' := g) k196_151 rfl rfl ?_
    exact q_e k196_152 rfl rfl rfl
  · refine q_s (pc' := 86) (ls' := [vR 137, vI l1, vI l2, vI l3, vI l4, vI l5, w6]) (st' := [vR 137]) (g' := g) k196_85 rfl rfl ?_
    refine q_getF (r := 142) (pc' := 89) k196_86 rfl rfl rfl rfl ?_
    refine q_s (pc' := 91) (ls' := [vR 137, vI l1, vI l2, vI l3, vI l4, vI l5, w6]) (st' := [vI l5, vR 142]) (g' := g) k196_89 rfl rfl ?_
    refine q_iald (n := 16) (pc' := 92) rfl k196_91 rfl rfl (fun h13 => ?_)
    refine q_s (pc' := 93) (ls' := [vR 137, vI l1, vI l2, vI l3, vI l4, vI l5, w6]) (st' := [vI l1, vI (g 142 l5)]) (g' := g) k196_92 rfl rfl ?_
    refine q_ic (P := g 142 l5 ≠ l1) (t := 145) (pc' := 96) k196_93 Iff.rfl rfl rfl (fun h14 => ?_) (fun h14 => ?_)
    · refine q_s (pc' := 148) (ls' := [vR 137, vI l1, vI l2, vI l3, vI l4, vI (iw (l5 + 1)), w6]) (st' := []) (g' := g) k196_145 rfl rfl ?_
      refine q_s (pc' := 76) (ls' := [vR 137, vI l1, vI l2, vI l3, vI l4, vI (iw (l5 + 1)), w6]) (st' := []) (g' := g) k196_148 rfl rfl ?_
      rfl
    · refine q_s (pc' := 97) (ls' := [vR 137, vI l1, vI l2, vI l3, vI l4, vI l5, w6]) (st' := [vR 137]) (g' := g) k196_96 rfl rfl ?_
      refine q_s (pc' := 99) (ls' := [vR 137, vI l1, vI l2, vI l3, vI l4, vI l5, w6]) (st' := [vI l5, vR 137]) (g' := g) k196_97 rfl rfl ?_
      refine q_s (pc' := 100) (ls' := [vR 137, vI l1, vI l2, vI l3, vI l4, vI l5, w6]) (st' := [vR 137, vI l5, vR 137]) (g' := g) k196_99 rfl rfl ?_
      refine q_getI (w := 3) (pc' := 103) k196_100 rfl rfl rfl rfl ?_
      refine q_callV (ls0 := [vR 137, vI l5, vI (g 137 3), vU, vU, vU]) (rest := []) (pc' := 106) rfl k196_103 rfl (hy4 rfl rfl rfl rfl) rfl rfl hq_183 rfl (fun q15 => ?_)
      refine q_s (pc' := 108) (ls' := [vR 137, vI l1, vI l2, vI l3, vI l4, vI l5, w6]) (st' := [vI l4]) (g' := q15) k196_106 rfl rfl ?_
      refine q_if (P := l4 = 0) (t := 126) (pc' := 111) k196_108 Iff.rfl rfl rfl (fun h16 => ?_) (fun h16 => ?_)
      · refine q_s (pc' := 127) (ls' := [vR 137, vI l1, vI l2, vI l3, vI l4, vI l5, w6]) (st' := [vR 137]) (g' := q15) k196_126 rfl rfl ?_
        refine q_callI (ls0 := [vR 137, vU, vU, vU, vU]) (rest := []) (pc' := 130) rfl k196_127 rfl (hy4 rfl rfl rfl rfl) rfl rfl hq_195 rfl (fun q17 => ?_)
        refine q_s (pc' := 132) (ls' := [vR 137, vI l1, vI l2, vI l3, vI l4, vI l5, vI q17.1]) (st' := []) (g' := q17.2) k196_130 rfl rfl ?_
        refine q_s (pc' := 134) (ls' := [vR 137, vI l1, vI l2, vI l3, vI l4, vI l5, vI q17.1]) (st' := [vI q17.1]) (g' := q17.2) k196_132 rfl rfl ?_
        refine q_s (pc' := 135) (ls' := [vR 137, vI l1, vI l2, vI l3, vI l4, vI l5, vI q17.1]) (st' := [vI l3, vI q17.1]) (g' := q17.2) k196_134 rfl rfl ?_
        refine q_ic (P := l3 ≤ q17.1) (t := 143) (pc' := 138) k196_135 Iff.rfl rfl rfl (fun h18 => ?_) (fun h18 => ?_)
        · refine q_s (pc' := 144) (ls' := [vR 137, vI l1, vI l2, vI l3, vI l4, vI l5, vI q17.1]) (st' := [vI l3]) (g' := q17.2) k196_143 rfl rfl ?_
          refine q_s (pc' := 145) (ls' := [vR 137, vI l1, vI l2, vI l3, vI l4, vI l5, vI q17.1]) (st' := []) (g' := q17.2) k196_144 rfl rfl ?_
          refine q_s (pc' := 148) (ls' := [vR 137, vI l1, vI l2, vI l3, vI l4, vI (iw (l5 + 1)), vI q17.1]) (st' := []) (g' := q17.2) k196_145 rfl rfl ?_
          refine q_s (pc' := 76) (ls' := [vR 137, vI l1, vI l2, vI l3, vI l4, vI (iw (l5 + 1)), vI q17.1]) (st' := []) (g' := q17.2) k196_148 rfl rfl ?_
          rfl
        · refine q_s (pc' := 140) (ls' := [vR 137, vI l1, vI l2, vI l3, vI l4, vI l5, vI q17.1]) (st' := [vI q17.1]) (g' := q17.2) k196_138 rfl rfl ?_
          refine q_s (pc' := 144) (ls' := [vR 137, vI l1, vI l2, vI l3, vI l4, vI l5, vI q17.1]) (st' := [vI q17.1]) (g' := q17.2) k196_140 rfl rfl ?_
          refine q_s (pc' := 145) (ls' := [vR 137, vI l1, vI l2, vI q17.1, vI l4, vI l5, vI q17.1]) (st' := []) (g' := q17.2) k196_144 rfl rfl ?_
          refine q_s (pc' := 148) (ls' := [vR 137, vI l1, vI l2, vI q17.1, vI l4, vI (iw (l5 + 1)), vI q17.1]) (st' := []) (g' := q17.2) k196_145 rfl rfl ?_
          refine q_s (pc' := 76) (ls' := [vR 137, vI l1, vI l2, vI q17.1, vI l4, vI (iw (l5 + 1)), vI q17.1]) (st' := []) (g' := q17.2) k196_148 rfl rfl ?_
          rfl
      · refine q_s (pc' := 112) (ls' := [vR 137, vI l1, vI l2, vI l3, vI l4, vI l5, w6]) (st' := [vR 137]) (g' := q15) k196_111 rfl rfl ?_
        refine q_callV (ls0 := [vR 137, vU]) (rest := []) (pc' := 115) rfl k196_112 rfl (hy4 rfl rfl rfl rfl) rfl rfl hq_194 rfl (fun q19 => ?_)
        refine q_s (pc' := 116) (ls' := [vR 137, vI l1, vI l2, vI l3, vI l4, vI l5, w6]) (st' := [vR 137]) (g' := q19) k196_115 rfl rfl ?_
        refine q_getI (w := 10) (pc' := 119) k196_116 rfl rfl rfl rfl ?_
        refine q_s (pc' := 120) (ls' := [vR 137, vI l1, vI l2, vI (q19 137 10), vI l4, vI l5, w6]) (st' := []) (g' := q19) k196_119 rfl rfl ?_
        refine q_s (pc' := 121) (ls' := [vR 137, vI l1, vI l2, vI (q19 137 10), vI l4, vI l5, w6]) (st' := [vI 0]) (g' := q19) k196_120 rfl rfl ?_
        refine q_s (pc' := 123) (ls' := [vR 137, vI l1, vI l2, vI (q19 137 10), vI 0, vI l5, w6]) (st' := []) (g' := q19) k196_121 rfl rfl ?_
        refine q_s (pc' := 145) (ls' := [vR 137, vI l1, vI l2, vI (q19 137 10), vI 0, vI l5, w6]) (st' := []) (g' := q19) k196_123 rfl rfl ?_
        refine q_s (pc' := 148) (ls' := [vR 137, vI l1, vI l2, vI (q19 137 10), vI 0, vI (iw (l5 + 1)), w6]) (st' := []) (g' := q19) k196_145 rfl rfl ?_
        refine q_s (pc' := 76) (ls' := [vR 137, vI l1, vI l2, vI (q19 137 10), vI 0, vI (iw (l5 + 1)), w6]) (st' := []) (g' := q19) k196_148 rfl rfl ?_
        rfl
set_option maxHeartbeats 4000000 in
theorem jM_next_eq (L : Nat) (a0 : Int) (g : AMem) : jM_next L a0 g = some (lw ((lw ((lw (a0 * 1103515245)) + 12345)) - (lw ((lw (a0 * 1103515245)) + 12345)).tdiv 2147483648 * 2147483648), g) := by
  unfold jM_next
  refine q_s (pc' := 1) (ls' := [vL a0, vU]) (st' := [vL a0]) (g' := g) k197_0 rfl rfl ?_
  refine q_s (pc' := 4) (ls' := [vL a0, vU]) (st' := [vL 1103515245, vL a0]) (g' := g) k197_1 rfl rfl ?_
  refine q_s (pc' := 5) (ls' := [vL a0, vU]) (st' := [vL (lw (a0 * 1103515245))]) (g' := g) k197_4 rfl rfl ?_
  refine q_s (pc' := 8) (ls' := [vL a0, vU]) (st' := [vL 12345, vL (lw (a0 * 1103515245))]) (g' := g) k197_5 rfl rfl ?_
  refine q_s (pc' := 9) (ls' := [vL a0, vU]) (st' := [vL (lw ((lw (a0 * 1103515245)) + 12345))]) (g' := g) k197_8 rfl rfl ?_
  refine q_s (pc' := 12) (ls' := [vL a0, vU]) (st' := [vL 2147483648, vL (lw ((lw (a0 * 1103515245)) + 12345))]) (g' := g) k197_9 rfl rfl ?_
  refine q_s (pc' := 13) (ls' := [vL a0, vU]) (st' := [vL (lw ((lw ((lw (a0 * 1103515245)) + 12345)) - (lw ((lw (a0 * 1103515245)) + 12345)).tdiv 2147483648 * 2147483648))]) (g' := g) k197_12 rfl rfl ?_
  exact q_e k197_13 rfl rfl rfl
set_option maxHeartbeats 4000000 in
theorem jM_beginOf_eq (L : Nat) (a0 : Int) (g : AMem) : jM_beginOf L a0 g = if a0 < 320 then ((jM_byteOf L a0 g).bind (fun q2 => some (q2.1, q2.2))) else (some (32, g)) := by
  unfold jM_beginOf
  refine q_s (pc' := 1) (ls' := [vI a0]) (st' := [vI a0]) (g' := g) k198_0 rfl rfl ?_
  refine q_s (pc' := 4) (ls' := [vI a0]) (st' := [vI 320, vI a0]) (g' := g) k198_1 rfl rfl ?_
  refine q_ic (P := a0 < 320) (t := 12) (pc' := 7) k198_4 Iff.rfl rfl rfl (fun h1 => ?_) (fun h1 => ?_)
  · refine q_s (pc' := 13) (ls' := [vI a0]) (st' := [vI a0]) (g' := g) k198_12 rfl rfl ?_
    refine q_callI (ls0 := [vI a0]) (rest := []) (pc' := 16) rfl k198_13 rfl (hy4 rfl rfl rfl rfl) rfl rfl hq_140 rfl (fun q2 => ?_)
    exact q_e k198_16 rfl rfl rfl
  · refine q_s (pc' := 9) (ls' := [vI a0]) (st' := [vI 32]) (g' := g) k198_7 rfl rfl ?_
    refine q_s (pc' := 16) (ls' := [vI a0]) (st' := [vI 32]) (g' := g) k198_9 rfl rfl ?_
    exact q_e k198_16 rfl rfl rfl
set_option maxHeartbeats 4000000 in
theorem jM_puts_eq (L : Nat) (a1 : Int) (a2 : Int) (g : AMem) : jM_puts L a1 a2 g = jM_puts_2 L a1 a2 0 g := by
  unfold jM_puts
  refine q_s (pc' := 1) (ls' := [vR 137, vI a1, vI a2, vU]) (st' := [vI 0]) (g' := g) k199_0 rfl rfl ?_
  refine q_s (pc' := 2) (ls' := [vR 137, vI a1, vI a2, vI 0]) (st' := []) (g' := g) k199_1 rfl rfl ?_
  rfl
set_option maxHeartbeats 4000000 in
theorem jM_puts_2_eq (L : Nat) (l1 : Int) (l2 : Int) (l3 : Int) (g : AMem) : jM_puts_2 L l1 l2 l3 g = (jM_widthOf L l1 g).bind (fun q1 => if q1.1 ≤ l3 then (some q1.2) else ((jM_byteOf L l1 q1.2).bind (fun q3 => if l3 ≠ 0 then (if 0 ≤ iw (q3.1 + l3) ∧ iw (q3.1 + l3) < 36 then (jM_puts_2 L l1 l2 (iw (l3 + 1)) (up q3.2 153 (iw (q3.1 + l3)) 0)) else none) else (if 0 ≤ iw (q3.1 + l3) ∧ iw (q3.1 + l3) < 36 then (jM_puts_2 L l1 l2 (iw (l3 + 1)) (up q3.2 153 (iw (q3.1 + l3)) l2)) else none)))) := by
  unfold jM_puts_2
  refine q_s (pc' := 3) (ls' := [vR 137, vI l1, vI l2, vI l3]) (st' := [vI l3]) (g' := g) k199_2 rfl rfl ?_
  refine q_s (pc' := 4) (ls' := [vR 137, vI l1, vI l2, vI l3]) (st' := [vI l1, vI l3]) (g' := g) k199_3 rfl rfl ?_
  refine q_callI (ls0 := [vI l1]) (rest := [vI l3]) (pc' := 7) rfl k199_4 rfl (hy4 rfl rfl rfl rfl) rfl rfl hq_139 rfl (fun q1 => ?_)
  refine q_ic (P := q1.1 ≤ l3) (t := 36) (pc' := 10) k199_7 Iff.rfl rfl rfl (fun h2 => ?_) (fun h2 => ?_)
  · exact q_e k199_36 rfl rfl rfl
  · refine q_s (pc' := 11) (ls' := [vR 137, vI l1, vI l2, vI l3]) (st' := [vR 137]) (g' := q1.2) k199_10 rfl rfl ?_
    refine q_getF (r := 153) (pc' := 14) k199_11 rfl rfl rfl rfl ?_
    refine q_s (pc' := 15) (ls' := [vR 137, vI l1, vI l2, vI l3]) (st' := [vI l1, vR 153]) (g' := q1.2) k199_14 rfl rfl ?_
    refine q_callI (ls0 := [vI l1]) (rest := [vR 153]) (pc' := 18) rfl k199_15 rfl (hy4 rfl rfl rfl rfl) rfl rfl hq_140 rfl (fun q3 => ?_)
    refine q_s (pc' := 19) (ls' := [vR 137, vI l1, vI l2, vI l3]) (st' := [vI l3, vI q3.1, vR 153]) (g' := q3.2) k199_18 rfl rfl ?_
    refine q_s (pc' := 20) (ls' := [vR 137, vI l1, vI l2, vI l3]) (st' := [vI (iw (q3.1 + l3)), vR 153]) (g' := q3.2) k199_19 rfl rfl ?_
    refine q_s (pc' := 21) (ls' := [vR 137, vI l1, vI l2, vI l3]) (st' := [vI l3, vI (iw (q3.1 + l3)), vR 153]) (g' := q3.2) k199_20 rfl rfl ?_
    refine q_if (P := l3 ≠ 0) (t := 28) (pc' := 24) k199_21 Iff.rfl rfl rfl (fun h4 => ?_) (fun h4 => ?_)
    · refine q_s (pc' := 29) (ls' := [vR 137, vI l1, vI l2, vI l3]) (st' := [vI 0, vI (iw (q3.1 + l3)), vR 153]) (g' := q3.2) k199_28 rfl rfl ?_
      refine q_iast (n := 36) (pc' := 30) rfl k199_29 rfl (by decide) rfl (fun h5 => ?_)
      refine q_s (pc' := 33) (ls' := [vR 137, vI l1, vI l2, vI (iw (l3 + 1))]) (st' := []) (g' := up q3.2 153 (iw (q3.1 + l3)) 0) k199_30 rfl rfl ?_
      refine q_s (pc' := 2) (ls' := [vR 137, vI l1, vI l2, vI (iw (l3 + 1))]) (st' := []) (g' := up q3.2 153 (iw (q3.1 + l3)) 0) k199_33 rfl rfl ?_
      rfl
    · refine q_s (pc' := 25) (ls' := [vR 137, vI l1, vI l2, vI l3]) (st' := [vI l2, vI (iw (q3.1 + l3)), vR 153]) (g' := q3.2) k199_24 rfl rfl ?_
      refine q_s (pc' := 29) (ls' := [vR 137, vI l1, vI l2, vI l3]) (st' := [vI l2, vI (iw (q3.1 + l3)), vR 153]) (g' := q3.2) k199_25 rfl rfl ?_
      refine q_iast (n := 36) (pc' := 30) rfl k199_29 rfl (by decide) rfl (fun h6 => ?_)
      refine q_s (pc' := 33) (ls' := [vR 137, vI l1, vI l2, vI (iw (l3 + 1))]) (st' := []) (g' := up q3.2 153 (iw (q3.1 + l3)) l2) k199_30 rfl rfl ?_
      refine q_s (pc' := 2) (ls' := [vR 137, vI l1, vI l2, vI (iw (l3 + 1))]) (st' := []) (g' := up q3.2 153 (iw (q3.1 + l3)) l2) k199_33 rfl rfl ?_
      rfl
set_option maxHeartbeats 4000000 in
theorem jM_stepsOn_eq (L : Nat) (a1 : Int) (g : AMem) : jM_stepsOn L a1 g = if 0 ≤ a1 ∧ a1 < 24 then ((jM_beginOf L (g 146 a1) g).bind (fun q2 => if 0 ≤ a1 ∧ a1 < 24 then (if q2.2 145 a1 ≠ 2 then (if 0 ≤ a1 ∧ a1 < 24 then ((jM_beginOf L (q2.2 147 a1) q2.2).bind (fun q6 => jM_stepsOn_52 L a1 q2.1 q6.1 0 vU q6.2)) else none) else (if 0 ≤ a1 ∧ a1 < 24 then (if 0 ≤ a1 ∧ a1 < 24 then ((jM_puts L (q2.2 146 a1) (iw ((-1) - (q2.2 147 a1))) q2.2).bind (fun q9 => some q9)) else none) else none)) else none)) else none := by
  unfold jM_stepsOn
  refine q_s (pc' := 1) (ls' := [vR 137, vI a1, vU, vU, vU, vU]) (st' := [vR 137]) (g' := g) k200_0 rfl rfl ?_
  refine q_getF (r := 146) (pc' := 4) k200_1 rfl rfl rfl rfl ?_
  refine q_s (pc' := 5) (ls' := [vR 137, vI a1, vU, vU, vU, vU]) (st' := [vI a1, vR 146]) (g' := g) k200_4 rfl rfl ?_
  refine q_iald (n := 24) (pc' := 6) rfl k200_5 rfl rfl (fun h1 => ?_)
  refine q_callI (ls0 := [vI (g 146 a1)]) (rest := []) (pc' := 9) rfl k200_6 rfl (hy4 rfl rfl rfl rfl) rfl rfl hq_198 rfl (fun q2 => ?_)
  refine q_s (pc' := 10) (ls' := [vR 137, vI a1, vI q2.1, vU, vU, vU]) (st' := []) (g' := q2.2) k200_9 rfl rfl ?_
  refine q_s (pc' := 11) (ls' := [vR 137, vI a1, vI q2.1, vU, vU, vU]) (st' := [vR 137]) (g' := q2.2) k200_10 rfl rfl ?_
  refine q_getF (r := 145) (pc' := 14) k200_11 rfl rfl rfl rfl ?_
  refine q_s (pc' := 15) (ls' := [vR 137, vI a1, vI q2.1, vU, vU, vU]) (st' := [vI a1, vR 145]) (g' := q2.2) k200_14 rfl rfl ?_
  refine q_iald (n := 24) (pc' := 16) rfl k200_15 rfl rfl (fun h3 => ?_)
  refine q_s (pc' := 17) (ls' := [vR 137, vI a1, vI q2.1, vU, vU, vU]) (st' := [vI 2, vI (q2.2 145 a1)]) (g' := q2.2) k200_16 rfl rfl ?_
  refine q_ic (P := q2.2 145 a1 ≠ 2) (t := 39) (pc' := 20) k200_17 Iff.rfl rfl rfl (fun h4 => ?_) (fun h4 => ?_)
  · refine q_s (pc' := 40) (ls' := [vR 137, vI a1, vI q2.1, vU, vU, vU]) (st' := [vR 137]) (g' := q2.2) k200_39 rfl rfl ?_
    refine q_getF (r := 147) (pc' := 43) k200_40 rfl rfl rfl rfl ?_
    refine q_s (pc' := 44) (ls' := [vR 137, vI a1, vI q2.1, vU, vU, vU]) (st' := [vI a1, vR 147]) (g' := q2.2) k200_43 rfl rfl ?_
    refine q_iald (n := 24) (pc' := 45) rfl k200_44 rfl rfl (fun h5 => ?_)
    refine q_callI (ls0 := [vI (q2.2 147 a1)]) (rest := []) (pc' := 48) rfl k200_45 rfl (hy4 rfl rfl rfl rfl) rfl rfl hq_198 rfl (fun q6 => ?_)
    refine q_s (pc' := 49) (ls' := [vR 137, vI a1, vI q2.1, vI q6.1, vU, vU]) (st' := []) (g' := q6.2) k200_48 rfl rfl ?_
    refine q_s (pc' := 50) (ls' := [vR 137, vI a1, vI q2.1, vI q6.1, vU, vU]) (st' := [vI 0]) (g' := q6.2) k200_49 rfl rfl ?_
    refine q_s (pc' := 52) (ls' := [vR 137, vI a1, vI q2.1, vI q6.1, vI 0, vU]) (st' := []) (g' := q6.2) k200_50 rfl rfl ?_
    rfl
  · refine q_s (pc' := 21) (ls' := [vR 137, vI a1, vI q2.1, vU, vU, vU]) (st' := [vR 137]) (g' := q2.2) k200_20 rfl rfl ?_
    refine q_s (pc' := 22) (ls' := [vR 137, vI a1, vI q2.1, vU, vU, vU]) (st' := [vR 137, vR 137]) (g' := q2.2) k200_21 rfl rfl ?_
    refine q_getF (r := 146) (pc' := 25) k200_22 rfl rfl rfl rfl ?_
    refine q_s (pc' := 26) (ls' := [vR 137, vI a1, vI q2.1, vU, vU, vU]) (st' := [vI a1, vR 146, vR 137]) (g' := q2.2) k200_25 rfl rfl ?_
    refine q_iald (n := 24) (pc' := 27) rfl k200_26 rfl rfl (fun h7 => ?_)
    refine q_s (pc' := 28) (ls' := [vR 137, vI a1, vI q2.1, vU, vU, vU]) (st' := [vI (-1), vI (q2.2 146 a1), vR 137]) (g' := q2.2) k200_27 rfl rfl ?_
    refine q_s (pc' := 29) (ls' := [vR 137, vI a1, vI q2.1, vU, vU, vU]) (st' := [vR 137, vI (-1), vI (q2.2 146 a1), vR 137]) (g' := q2.2) k200_28 rfl rfl ?_
    refine q_getF (r := 147) (pc' := 32) k200_29 rfl rfl rfl rfl ?_
    refine q_s (pc' := 33) (ls' := [vR 137, vI a1, vI q2.1, vU, vU, vU]) (st' := [vI a1, vR 147, vI (-1), vI (q2.2 146 a1), vR 137]) (g' := q2.2) k200_32 rfl rfl ?_
    refine q_iald (n := 24) (pc' := 34) rfl k200_33 rfl rfl (fun h8 => ?_)
    refine q_s (pc' := 35) (ls' := [vR 137, vI a1, vI q2.1, vU, vU, vU]) (st' := [vI (iw ((-1) - (q2.2 147 a1))), vI (q2.2 146 a1), vR 137]) (g' := q2.2) k200_34 rfl rfl ?_
    refine q_callV (ls0 := [vR 137, vI (q2.2 146 a1), vI (iw ((-1) - (q2.2 147 a1))), vU]) (rest := []) (pc' := 38) rfl k200_35 rfl (hy4 rfl rfl rfl rfl) rfl rfl hq_199 rfl (fun q9 => ?_)
    exact q_e k200_38 rfl rfl rfl
set_option maxHeartbeats 4000000 in
theorem jM_stepsOn_52_eq (L : Nat) (l1 : Int) (l2 : Int) (l3 : Int) (l4 : Int) (w5 : AVal) (g : AMem) : jM_stepsOn_52 L l1 l2 l3 l4 w5 g = if 0 ≤ l1 ∧ l1 < 24 then ((jM_widthOf L (g 146 l1) g).bind (fun q11 => if q11.1 ≤ l4 then (some q11.2) else (if 0 ≤ iw (l2 + l4) ∧ iw (l2 + l4) < 36 then (if 0 ≤ iw (l3 + l4) ∧ iw (l3 + l4) < 36 then (if 0 ≤ iw (l2 + l4) ∧ iw (l2 + l4) < 36 then (if 0 ≤ l1 ∧ l1 < 24 then (if (up q11.2 153 (iw (l2 + l4)) (q11.2 153 (iw (l3 + l4)))) 145 l1 ≠ 1 then (if 0 ≤ iw (l3 + l4) ∧ iw (l3 + l4) < 36 then (if 0 ≤ iw (l3 + l4) ∧ iw (l3 + l4) < 36 then (jM_stepsOn_52 L l1 l2 l3 (iw (l4 + 1)) (vI (q11.2 153 (iw (l2 + l4)))) (up (up q11.2 153 (iw (l2 + l4)) (q11.2 153 (iw (l3 + l4)))) 153 (iw (l3 + l4)) ((up q11.2 153 (iw (l2 + l4)) (q11.2 153 (iw (l3 + l4)))) 153 (iw (l3 + l4))))) else none) else none) else (if 0 ≤ iw (l3 + l4) ∧ iw (l3 + l4) < 36 then (jM_stepsOn_52 L l1 l2 l3 (iw (l4 + 1)) (vI (q11.2 153 (iw (l2 + l4)))) (up (up q11.2 153 (iw (l2 + l4)) (q11.2 153 (iw (l3 + l4)))) 153 (iw (l3 + l4)) (q11.2 153 (iw (l2 + l4))))) else none)) else none) else none) else none) else none))) else none := by
  unfold jM_stepsOn_52
  refine q_s (pc' := 54) (ls' := [vR 137, vI l1, vI l2, vI l3, vI l4, w5]) (st' := [vI l4]) (g' := g) k200_52 rfl rfl ?_
  refine q_s (pc' := 55) (ls' := [vR 137, vI l1, vI l2, vI l3, vI l4, w5]) (st' := [vR 137, vI l4]) (g' := g) k200_54 rfl rfl ?_
  refine q_getF (r := 146) (pc' := 58) k200_55 rfl rfl rfl rfl ?_
  refine q_s (pc' := 59) (ls' := [vR 137, vI l1, vI l2, vI l3, vI l4, w5]) (st' := [vI l1, vR 146, vI l4]) (g' := g) k200_58 rfl rfl ?_
  refine q_iald (n := 24) (pc' := 60) rfl k200_59 rfl rfl (fun h10 => ?_)
  refine q_callI (ls0 := [vI (g 146 l1)]) (rest := [vI l4]) (pc' := 63) rfl k200_60 rfl (hy4 rfl rfl rfl rfl) rfl rfl hq_139 rfl (fun q11 => ?_)
  refine q_ic (P := q11.1 ≤ l4) (t := 134) (pc' := 66) k200_63 Iff.rfl rfl rfl (fun h12 => ?_) (fun h12 => ?_)
  · exact q_e k200_134 rfl rfl rfl
  · refine q_s (pc' := 67) (ls' := [vR 137, vI l1, vI l2, vI l3, vI l4, w5]) (st' := [vR 137]) (g' := q11.2) k200_66 rfl rfl ?_
    refine q_getF (r := 153) (pc' := 70) k200_67 rfl rfl rfl rfl ?_
    refine q_s (pc' := 71) (ls' := [vR 137, vI l1, vI l2, vI l3, vI l4, w5]) (st' := [vI l2, vR 153]) (g' := q11.2) k200_70 rfl rfl ?_
    refine q_s (pc' := 73) (ls' := [vR 137, vI l1, vI l2, vI l3, vI l4, w5]) (st' := [vI l4, vI l2, vR 153]) (g' := q11.2) k200_71 rfl rfl ?_
    refine q_s (pc' := 74) (ls' := [vR 137, vI l1, vI l2, vI l3, vI l4, w5]) (st' := [vI (iw (l2 + l4)), vR 153]) (g' := q11.2) k200_73 rfl rfl ?_
    refine q_iald (n := 36) (pc' := 75) rfl k200_74 rfl rfl (fun h13 => ?_)
    refine q_s (pc' := 77) (ls' := [vR 137, vI l1, vI l2, vI l3, vI l4, vI (q11.2 153 (iw (l2 + l4)))]) (st' := []) (g' := q11.2) k200_75 rfl rfl ?_
    refine q_s (pc' := 78) (ls' := [vR 137, vI l1, vI l2, vI l3, vI l4, vI (q11.2 153 (iw (l2 + l4)))]) (st' := [vR 137]) (g' := q11.2) k200_77 rfl rfl ?_
    refine q_getF (r := 153) (pc' := 81) k200_78 rfl rfl rfl rfl ?_
    refine q_s (pc' := 82) (ls' := [vR 137, vI l1, vI l2, vI l3, vI l4, vI (q11.2 153 (iw (l2 + l4)))]) (st' := [vI l2, vR 153]) (g' := q11.2) k200_81 rfl rfl ?_
    refine q_s (pc' := 84) (ls' := [vR 137, vI l1, vI l2, vI l3, vI l4, vI (q11.2 153 (iw (l2 + l4)))]) (st' := [vI l4, vI l2, vR 153]) (g' := q11.2) k200_82 rfl rfl ?_
    refine q_s (pc' := 85) (ls' := [vR 137, vI l1, vI l2, vI l3, vI l4, vI (q11.2 153 (iw (l2 + l4)))]) (st' := [vI (iw (l2 + l4)), vR 153]) (g' := q11.2) k200_84 rfl rfl ?_
    refine q_s (pc' := 86) (ls' := [vR 137, vI l1, vI l2, vI l3, vI l4, vI (q11.2 153 (iw (l2 + l4)))]) (st' := [vR 137, vI (iw (l2 + l4)), vR 153]) (g' := q11.2) k200_85 rfl rfl ?_
    refine q_getF (r := 153) (pc' := 89) k200_86 rfl rfl rfl rfl ?_
    refine q_s (pc' := 90) (ls' := [vR 137, vI l1, vI l2, vI l3, vI l4, vI (q11.2 153 (iw (l2 + l4)))]) (st' := [vI l3, vR 153, vI (iw (l2 + l4)), vR 153]) (g' := q11.2) k200_89 rfl rfl ?_
    refine q_s (pc' := 92) (ls' := [vR 137, vI l1, vI l2, vI l3, vI l4, vI (q11.2 153 (iw (l2 + l4)))]) (st' := [vI l4, vI l3, vR 153, vI (iw (l2 + l4)), vR 153]) (g' := q11.2) k200_90 rfl rfl ?_
    refine q_s (pc' := 93) (ls' := [vR 137, vI l1, vI l2, vI l3, vI l4, vI (q11.2 153 (iw (l2 + l4)))]) (st' := [vI (iw (l3 + l4)), vR 153, vI (iw (l2 + l4)), vR 153]) (g' := q11.2) k200_92 rfl rfl ?_
    refine q_iald (n := 36) (pc' := 94) rfl k200_93 rfl rfl (fun h14 => ?_)
    refine q_iast (n := 36) (pc' := 95) rfl k200_94 rfl (by decide) rfl (fun h15 => ?_)
    refine q_s (pc' := 96) (ls' := [vR 137, vI l1, vI l2, vI l3, vI l4, vI (q11.2 153 (iw (l2 + l4)))]) (st' := [vR 137]) (g' := up q11.2 153 (iw (l2 + l4)) (q11.2 153 (iw (l3 + l4)))) k200_95 rfl rfl ?_
    refine q_getF (r := 153) (pc' := 99) k200_96 rfl rfl rfl rfl ?_
    refine q_s (pc' := 100) (ls' := [vR 137, vI l1, vI l2, vI l3, vI l4, vI (q11.2 153 (iw (l2 + l4)))]) (st' := [vI l3, vR 153]) (g' := up q11.2 153 (iw (l2 + l4)) (q11.2 153 (iw (l3 + l4)))) k200_99 rfl rfl ?_
    refine q_s (pc' := 102) (ls' := [vR 137, vI l1, vI l2, vI l3, vI l4, vI (q11.2 153 (iw (l2 + l4)))]) (st' := [vI l4, vI l3, vR 153]) (g' := up q11.2 153 (iw (l2 + l4)) (q11.2 153 (iw (l3 + l4)))) k200_100 rfl rfl ?_
    refine q_s (pc' := 103) (ls' := [vR 137, vI l1, vI l2, vI l3, vI l4, vI (q11.2 153 (iw (l2 + l4)))]) (st' := [vI (iw (l3 + l4)), vR 153]) (g' := up q11.2 153 (iw (l2 + l4)) (q11.2 153 (iw (l3 + l4)))) k200_102 rfl rfl ?_
    refine q_s (pc' := 104) (ls' := [vR 137, vI l1, vI l2, vI l3, vI l4, vI (q11.2 153 (iw (l2 + l4)))]) (st' := [vR 137, vI (iw (l3 + l4)), vR 153]) (g' := up q11.2 153 (iw (l2 + l4)) (q11.2 153 (iw (l3 + l4)))) k200_103 rfl rfl ?_
    refine q_getF (r := 145) (pc' := 107) k200_104 rfl rfl rfl rfl ?_
    refine q_s (pc' := 108) (ls' := [vR 137, vI l1, vI l2, vI l3, vI l4, vI (q11.2 153 (iw (l2 + l4)))]) (st' := [vI l1, vR 145, vI (iw (l3 + l4)), vR 153]) (g' := up q11.2 153 (iw (l2 + l4)) (q11.2 153 (iw (l3 + l4)))) k200_107 rfl rfl ?_
    refine q_iald (n := 24) (pc' := 109) rfl k200_108 rfl rfl (fun h16 => ?_)
    refine q_s (pc' := 110) (ls' := [vR 137, vI l1, vI l2, vI l3, vI l4, vI (q11.2 153 (iw (l2 + l4)))]) (st' := [vI 1, vI ((up q11.2 153 (iw (l2 + l4)) (q11.2 153 (iw (l3 + l4)))) 145 l1), vI (iw (l3 + l4)), vR 153]) (g' := up q11.2 153 (iw (l2 + l4)) (q11.2 153 (iw (l3 + l4)))) k200_109 rfl rfl ?_
    refine q_ic (P := (up q11.2 153 (iw (l2 + l4)) (q11.2 153 (iw (l3 + l4)))) 145 l1 ≠ 1) (t := 118) (pc' := 113) k200_110 Iff.rfl rfl rfl (fun h17 => ?_) (fun h17 => ?_)
    · refine q_s (pc' := 119) (ls' := [vR 137, vI l1, vI l2, vI l3, vI l4, vI (q11.2 153 (iw (l2 + l4)))]) (st' := [vR 137, vI (iw (l3 + l4)), vR 153]) (g' := up q11.2 153 (iw (l2 + l4)) (q11.2 153 (iw (l3 + l4)))) k200_118 rfl rfl ?_
      refine q_getF (r := 153) (pc' := 122) k200_119 rfl rfl rfl rfl ?_
      refine q_s (pc' := 123) (ls' := [vR 137, vI l1, vI l2, vI l3, vI l4, vI (q11.2 153 (iw (l2 + l4)))]) (st' := [vI l3, vR 153, vI (iw (l3 + l4)), vR 153]) (g' := up q11.2 153 (iw (l2 + l4)) (q11.2 153 (iw (l3 + l4)))) k200_122 rfl rfl ?_
      refine q_s (pc' := 125) (ls' := [vR 137, vI l1, vI l2, vI l3, vI l4, vI (q11.2 153 (iw (l2 + l4)))]) (st' := [vI l4, vI l3, vR 153, vI (iw (l3 + l4)), vR 153]) (g' := up q11.2 153 (iw (l2 + l4)) (q11.2 153 (iw (l3 + l4)))) k200_123 rfl rfl ?_
      refine q_s (pc' := 126) (ls' := [vR 137, vI l1, vI l2, vI l3, vI l4, vI (q11.2 153 (iw (l2 + l4)))]) (st' := [vI (iw (l3 + l4)), vR 153, vI (iw (l3 + l4)), vR 153]) (g' := up q11.2 153 (iw (l2 + l4)) (q11.2 153 (iw (l3 + l4)))) k200_125 rfl rfl ?_
      refine q_iald (n := 36) (pc' := 127) rfl k200_126 rfl rfl (fun h18 => ?_)
      refine q_iast (n := 36) (pc' := 128) rfl k200_127 rfl (by decide) rfl (fun h19 => ?_)
      refine q_s (pc' := 131) (ls' := [vR 137, vI l1, vI l2, vI l3, vI (iw (l4 + 1)), vI (q11.2 153 (iw (l2 + l4)))]) (st' := []) (g' := up (up q11.2 153 (iw (l2 + l4)) (q11.2 153 (iw (l3 + l4)))) 153 (iw (l3 + l4)) ((up q11.2 153 (iw (l2 + l4)) (q11.2 153 (iw (l3 + l4)))) 153 (iw (l3 + l4)))) k200_128 rfl rfl ?_
      refine q_s (pc' := 52) (ls' := [vR 137, vI l1, vI l2, vI l3, vI (iw (l4 + 1)), vI (q11.2 153 (iw (l2 + l4)))]) (st' := []) (g' := up (up q11.2 153 (iw (l2 + l4)) (q11.2 153 (iw (l3 + l4)))) 153 (iw (l3 + l4)) ((up q11.2 153 (iw (l2 + l4)) (q11.2 153 (iw (l3 + l4)))) 153 (iw (l3 + l4)))) k200_131 rfl rfl ?_
      rfl
    · refine q_s (pc' := 115) (ls' := [vR 137, vI l1, vI l2, vI l3, vI l4, vI (q11.2 153 (iw (l2 + l4)))]) (st' := [vI (q11.2 153 (iw (l2 + l4))), vI (iw (l3 + l4)), vR 153]) (g' := up q11.2 153 (iw (l2 + l4)) (q11.2 153 (iw (l3 + l4)))) k200_113 rfl rfl ?_
      refine q_s (pc' := 127) (ls' := [vR 137, vI l1, vI l2, vI l3, vI l4, vI (q11.2 153 (iw (l2 + l4)))]) (st' := [vI (q11.2 153 (iw (l2 + l4))), vI (iw (l3 + l4)), vR 153]) (g' := up q11.2 153 (iw (l2 + l4)) (q11.2 153 (iw (l3 + l4)))) k200_115 rfl rfl ?_
      refine q_iast (n := 36) (pc' := 128) rfl k200_127 rfl (by decide) rfl (fun h20 => ?_)
      refine q_s (pc' := 131) (ls' := [vR 137, vI l1, vI l2, vI l3, vI (iw (l4 + 1)), vI (q11.2 153 (iw (l2 + l4)))]) (st' := []) (g' := up (up q11.2 153 (iw (l2 + l4)) (q11.2 153 (iw (l3 + l4)))) 153 (iw (l3 + l4)) (q11.2 153 (iw (l2 + l4)))) k200_128 rfl rfl ?_
      refine q_s (pc' := 52) (ls' := [vR 137, vI l1, vI l2, vI l3, vI (iw (l4 + 1)), vI (q11.2 153 (iw (l2 + l4)))]) (st' := []) (g' := up (up q11.2 153 (iw (l2 + l4)) (q11.2 153 (iw (l3 + l4)))) 153 (iw (l3 + l4)) (q11.2 153 (iw (l2 + l4)))) k200_131 rfl rfl ?_
      rfl
set_option maxHeartbeats 4000000 in
theorem jM_handsOver_eq (L : Nat) (a1 : Int) (g : AMem) : jM_handsOver L a1 g = jM_handsOver_2 L a1 0 g := by
  unfold jM_handsOver
  refine q_s (pc' := 1) (ls' := [vR 137, vI a1, vU, vU, vU, vU]) (st' := [vI 0]) (g' := g) k201_0 rfl rfl ?_
  refine q_s (pc' := 2) (ls' := [vR 137, vI a1, vI 0, vU, vU, vU]) (st' := []) (g' := g) k201_1 rfl rfl ?_
  rfl
set_option maxHeartbeats 4000000 in
theorem jM_handsOver_2_eq (L : Nat) (l1 : Int) (l2 : Int) (g : AMem) : jM_handsOver_2 L l1 l2 g = if 32 ≤ l2 then (jM_handsOver_28 L l1 0 vU vU vU g) else (if 0 ≤ l2 ∧ l2 < 36 then (if 0 ≤ l2 ∧ l2 < 32 then (jM_handsOver_2 L l1 (iw (l2 + 1)) (up g 154 l2 (g 153 l2))) else none) else none) := by
  unfold jM_handsOver_2
  refine q_s (pc' := 3) (ls' := [vR 137, vI l1, vI l2, vU, vU, vU]) (st' := [vI l2]) (g' := g) k201_2 rfl rfl ?_
  refine q_s (pc' := 5) (ls' := [vR 137, vI l1, vI l2, vU, vU, vU]) (st' := [vI 32, vI l2]) (g' := g) k201_3 rfl rfl ?_
  refine q_ic (P := 32 ≤ l2) (t := 26) (pc' := 8) k201_5 Iff.rfl rfl rfl (fun h1 => ?_) (fun h1 => ?_)
  · refine q_s (pc' := 27) (ls' := [vR 137, vI l1, vI l2, vU, vU, vU]) (st' := [vI 0]) (g' := g) k201_26 rfl rfl ?_
    refine q_s (pc' := 28) (ls' := [vR 137, vI l1, vI 0, vU, vU, vU]) (st' := []) (g' := g) k201_27 rfl rfl ?_
    rfl
  · refine q_s (pc' := 9) (ls' := [vR 137, vI l1, vI l2, vU, vU, vU]) (st' := [vR 137]) (g' := g) k201_8 rfl rfl ?_
    refine q_getF (r := 154) (pc' := 12) k201_9 rfl rfl rfl rfl ?_
    refine q_s (pc' := 13) (ls' := [vR 137, vI l1, vI l2, vU, vU, vU]) (st' := [vI l2, vR 154]) (g' := g) k201_12 rfl rfl ?_
    refine q_s (pc' := 14) (ls' := [vR 137, vI l1, vI l2, vU, vU, vU]) (st' := [vR 137, vI l2, vR 154]) (g' := g) k201_13 rfl rfl ?_
    refine q_getF (r := 153) (pc' := 17) k201_14 rfl rfl rfl rfl ?_
    refine q_s (pc' := 18) (ls' := [vR 137, vI l1, vI l2, vU, vU, vU]) (st' := [vI l2, vR 153, vI l2, vR 154]) (g' := g) k201_17 rfl rfl ?_
    refine q_iald (n := 36) (pc' := 19) rfl k201_18 rfl rfl (fun h2 => ?_)
    refine q_iast (n := 32) (pc' := 20) rfl k201_19 rfl (by decide) rfl (fun h3 => ?_)
    refine q_s (pc' := 23) (ls' := [vR 137, vI l1, vI (iw (l2 + 1)), vU, vU, vU]) (st' := []) (g' := up g 154 l2 (g 153 l2)) k201_20 rfl rfl ?_
    refine q_s (pc' := 2) (ls' := [vR 137, vI l1, vI (iw (l2 + 1)), vU, vU, vU]) (st' := []) (g' := up g 154 l2 (g 153 l2)) k201_23 rfl rfl ?_
    rfl
set_option maxHeartbeats 4000000 in
theorem jM_handsOver_28_eq (L : Nat) (l1 : Int) (l2 : Int) (w3 : AVal) (w4 : AVal) (w5 : AVal) (g : AMem) : jM_handsOver_28 L l1 l2 w3 w4 w5 g = (jM_manyOf L l1 g).bind (fun q4 => if q4.1 ≤ l2 then (some q4.2) else ((jM_parameterOf L l1 l2 q4.2).bind (fun q6 => (jM_givenOf L l1 l2 q6.2).bind (fun q7 => if 0 ≤ q7.1 then (jM_handsOver_72 L l1 l2 q6.1 q7.1 0 q7.2) else ((jM_puts L q6.1 (iw ((-1) - q7.1)) q7.2).bind (fun q9 => jM_handsOver_28 L l1 (iw (l2 + 1)) (vI q6.1) (vI q7.1) w5 q9)))))) := by
  unfold jM_handsOver_28
  refine q_s (pc' := 29) (ls' := [vR 137, vI l1, vI l2, w3, w4, w5]) (st' := [vI l2]) (g' := g) k201_28 rfl rfl ?_
  refine q_s (pc' := 30) (ls' := [vR 137, vI l1, vI l2, w3, w4, w5]) (st' := [vR 137, vI l2]) (g' := g) k201_29 rfl rfl ?_
  refine q_s (pc' := 31) (ls' := [vR 137, vI l1, vI l2, w3, w4, w5]) (st' := [vI l1, vR 137, vI l2]) (g' := g) k201_30 rfl rfl ?_
  refine q_callI (ls0 := [vR 137, vI l1]) (rest := [vI l2]) (pc' := 34) rfl k201_31 rfl (hy4 rfl rfl rfl rfl) rfl rfl hq_148 rfl (fun q4 => ?_)
  refine q_ic (P := q4.1 ≤ l2) (t := 118) (pc' := 37) k201_34 Iff.rfl rfl rfl (fun h5 => ?_) (fun h5 => ?_)
  · exact q_e k201_118 rfl rfl rfl
  · refine q_s (pc' := 38) (ls' := [vR 137, vI l1, vI l2, w3, w4, w5]) (st' := [vR 137]) (g' := q4.2) k201_37 rfl rfl ?_
    refine q_s (pc' := 39) (ls' := [vR 137, vI l1, vI l2, w3, w4, w5]) (st' := [vI l1, vR 137]) (g' := q4.2) k201_38 rfl rfl ?_
    refine q_s (pc' := 40) (ls' := [vR 137, vI l1, vI l2, w3, w4, w5]) (st' := [vI l2, vI l1, vR 137]) (g' := q4.2) k201_39 rfl rfl ?_
    refine q_callI (ls0 := [vR 137, vI l1, vI l2]) (rest := []) (pc' := 43) rfl k201_40 rfl (hy4 rfl rfl rfl rfl) rfl rfl hq_147 rfl (fun q6 => ?_)
    refine q_s (pc' := 44) (ls' := [vR 137, vI l1, vI l2, vI q6.1, w4, w5]) (st' := []) (g' := q6.2) k201_43 rfl rfl ?_
    refine q_s (pc' := 45) (ls' := [vR 137, vI l1, vI l2, vI q6.1, w4, w5]) (st' := [vR 137]) (g' := q6.2) k201_44 rfl rfl ?_
    refine q_s (pc' := 46) (ls' := [vR 137, vI l1, vI l2, vI q6.1, w4, w5]) (st' := [vI l1, vR 137]) (g' := q6.2) k201_45 rfl rfl ?_
    refine q_s (pc' := 47) (ls' := [vR 137, vI l1, vI l2, vI q6.1, w4, w5]) (st' := [vI l2, vI l1, vR 137]) (g' := q6.2) k201_46 rfl rfl ?_
    refine q_callI (ls0 := [vR 137, vI l1, vI l2]) (rest := []) (pc' := 50) rfl k201_47 rfl (hy4 rfl rfl rfl rfl) rfl rfl hq_149 rfl (fun q7 => ?_)
    refine q_s (pc' := 52) (ls' := [vR 137, vI l1, vI l2, vI q6.1, vI q7.1, w5]) (st' := []) (g' := q7.2) k201_50 rfl rfl ?_
    refine q_s (pc' := 54) (ls' := [vR 137, vI l1, vI l2, vI q6.1, vI q7.1, w5]) (st' := [vI q7.1]) (g' := q7.2) k201_52 rfl rfl ?_
    refine q_if (P := 0 ≤ q7.1) (t := 69) (pc' := 57) k201_54 Iff.rfl rfl rfl (fun h8 => ?_) (fun h8 => ?_)
    · refine q_s (pc' := 70) (ls' := [vR 137, vI l1, vI l2, vI q6.1, vI q7.1, w5]) (st' := [vI 0]) (g' := q7.2) k201_69 rfl rfl ?_
      refine q_s (pc' := 72) (ls' := [vR 137, vI l1, vI l2, vI q6.1, vI q7.1, vI 0]) (st' := []) (g' := q7.2) k201_70 rfl rfl ?_
      rfl
    · refine q_s (pc' := 58) (ls' := [vR 137, vI l1, vI l2, vI q6.1, vI q7.1, w5]) (st' := [vR 137]) (g' := q7.2) k201_57 rfl rfl ?_
      refine q_s (pc' := 59) (ls' := [vR 137, vI l1, vI l2, vI q6.1, vI q7.1, w5]) (st' := [vI q6.1, vR 137]) (g' := q7.2) k201_58 rfl rfl ?_
      refine q_s (pc' := 60) (ls' := [vR 137, vI l1, vI l2, vI q6.1, vI q7.1, w5]) (st' := [vI (-1), vI q6.1, vR 137]) (g' := q7.2) k201_59 rfl rfl ?_
      refine q_s (pc' := 62) (ls' := [vR 137, vI l1, vI l2, vI q6.1, vI q7.1, w5]) (st' := [vI q7.1, vI (-1), vI q6.1, vR 137]) (g' := q7.2) k201_60 rfl rfl ?_
      refine q_s (pc' := 63) (ls' := [vR 137, vI l1, vI l2, vI q6.1, vI q7.1, w5]) (st' := [vI (iw ((-1) - q7.1)), vI q6.1, vR 137]) (g' := q7.2) k201_62 rfl rfl ?_
      refine q_callV (ls0 := [vR 137, vI q6.1, vI (iw ((-1) - q7.1)), vU]) (rest := []) (pc' := 66) rfl k201_63 rfl (hy4 rfl rfl rfl rfl) rfl rfl hq_199 rfl (fun q9 => ?_)
      refine q_s (pc' := 112) (ls' := [vR 137, vI l1, vI l2, vI q6.1, vI q7.1, w5]) (st' := []) (g' := q9) k201_66 rfl rfl ?_
      refine q_s (pc' := 115) (ls' := [vR 137, vI l1, vI (iw (l2 + 1)), vI q6.1, vI q7.1, w5]) (st' := []) (g' := q9) k201_112 rfl rfl ?_
      refine q_s (pc' := 28) (ls' := [vR 137, vI l1, vI (iw (l2 + 1)), vI q6.1, vI q7.1, w5]) (st' := []) (g' := q9) k201_115 rfl rfl ?_
      rfl
set_option maxHeartbeats 4000000 in
theorem jM_handsOver_72_eq (L : Nat) (l1 : Int) (l2 : Int) (l3 : Int) (l4 : Int) (l5 : Int) (g : AMem) : jM_handsOver_72 L l1 l2 l3 l4 l5 g = (jM_widthOf L l3 g).bind (fun q10 => if q10.1 ≤ l5 then (jM_handsOver_28 L l1 (iw (l2 + 1)) (vI l3) (vI l4) (vI l5) q10.2) else ((jM_byteOf L l3 q10.2).bind (fun q12 => (jM_byteOf L l4 q12.2).bind (fun q13 => if 0 ≤ iw (q13.1 + l5) ∧ iw (q13.1 + l5) < 32 then (if 0 ≤ iw (q12.1 + l5) ∧ iw (q12.1 + l5) < 36 then (jM_handsOver_72 L l1 l2 l3 l4 (iw (l5 + 1)) (up q13.2 153 (iw (q12.1 + l5)) (q13.2 154 (iw (q13.1 + l5))))) else none) else none)))) := by
  unfold jM_handsOver_72
  refine q_s (pc' := 74) (ls' := [vR 137, vI l1, vI l2, vI l3, vI l4, vI l5]) (st' := [vI l5]) (g' := g) k201_72 rfl rfl ?_
  refine q_s (pc' := 75) (ls' := [vR 137, vI l1, vI l2, vI l3, vI l4, vI l5]) (st' := [vI l3, vI l5]) (g' := g) k201_74 rfl rfl ?_
  refine q_callI (ls0 := [vI l3]) (rest := [vI l5]) (pc' := 78) rfl k201_75 rfl (hy4 rfl rfl rfl rfl) rfl rfl hq_139 rfl (fun q10 => ?_)
  refine q_ic (P := q10.1 ≤ l5) (t := 112) (pc' := 81) k201_78 Iff.rfl rfl rfl (fun h11 => ?_) (fun h11 => ?_)
  · refine q_s (pc' := 115) (ls' := [vR 137, vI l1, vI (iw (l2 + 1)), vI l3, vI l4, vI l5]) (st' := []) (g' := q10.2) k201_112 rfl rfl ?_
    refine q_s (pc' := 28) (ls' := [vR 137, vI l1, vI (iw (l2 + 1)), vI l3, vI l4, vI l5]) (st' := []) (g' := q10.2) k201_115 rfl rfl ?_
    rfl
  · refine q_s (pc' := 82) (ls' := [vR 137, vI l1, vI l2, vI l3, vI l4, vI l5]) (st' := [vR 137]) (g' := q10.2) k201_81 rfl rfl ?_
    refine q_getF (r := 153) (pc' := 85) k201_82 rfl rfl rfl rfl ?_
    refine q_s (pc' := 86) (ls' := [vR 137, vI l1, vI l2, vI l3, vI l4, vI l5]) (st' := [vI l3, vR 153]) (g' := q10.2) k201_85 rfl rfl ?_
    refine q_callI (ls0 := [vI l3]) (rest := [vR 153]) (pc' := 89) rfl k201_86 rfl (hy4 rfl rfl rfl rfl) rfl rfl hq_140 rfl (fun q12 => ?_)
    refine q_s (pc' := 91) (ls' := [vR 137, vI l1, vI l2, vI l3, vI l4, vI l5]) (st' := [vI l5, vI q12.1, vR 153]) (g' := q12.2) k201_89 rfl rfl ?_
    refine q_s (pc' := 92) (ls' := [vR 137, vI l1, vI l2, vI l3, vI l4, vI l5]) (st' := [vI (iw (q12.1 + l5)), vR 153]) (g' := q12.2) k201_91 rfl rfl ?_
    refine q_s (pc' := 93) (ls' := [vR 137, vI l1, vI l2, vI l3, vI l4, vI l5]) (st' := [vR 137, vI (iw (q12.1 + l5)), vR 153]) (g' := q12.2) k201_92 rfl rfl ?_
    refine q_getF (r := 154) (pc' := 96) k201_93 rfl rfl rfl rfl ?_
    refine q_s (pc' := 98) (ls' := [vR 137, vI l1, vI l2, vI l3, vI l4, vI l5]) (st' := [vI l4, vR 154, vI (iw (q12.1 + l5)), vR 153]) (g' := q12.2) k201_96 rfl rfl ?_
    refine q_callI (ls0 := [vI l4]) (rest := [vR 154, vI (iw (q12.1 + l5)), vR 153]) (pc' := 101) rfl k201_98 rfl (hy4 rfl rfl rfl rfl) rfl rfl hq_140 rfl (fun q13 => ?_)
    refine q_s (pc' := 103) (ls' := [vR 137, vI l1, vI l2, vI l3, vI l4, vI l5]) (st' := [vI l5, vI q13.1, vR 154, vI (iw (q12.1 + l5)), vR 153]) (g' := q13.2) k201_101 rfl rfl ?_
    refine q_s (pc' := 104) (ls' := [vR 137, vI l1, vI l2, vI l3, vI l4, vI l5]) (st' := [vI (iw (q13.1 + l5)), vR 154, vI (iw (q12.1 + l5)), vR 153]) (g' := q13.2) k201_103 rfl rfl ?_
    refine q_iald (n := 32) (pc' := 105) rfl k201_104 rfl rfl (fun h14 => ?_)
    refine q_iast (n := 36) (pc' := 106) rfl k201_105 rfl (by decide) rfl (fun h15 => ?_)
    refine q_s (pc' := 109) (ls' := [vR 137, vI l1, vI l2, vI l3, vI l4, vI (iw (l5 + 1))]) (st' := []) (g' := up q13.2 153 (iw (q12.1 + l5)) (q13.2 154 (iw (q13.1 + l5)))) k201_106 rfl rfl ?_
    refine q_s (pc' := 72) (ls' := [vR 137, vI l1, vI l2, vI l3, vI l4, vI (iw (l5 + 1))]) (st' := []) (g' := up q13.2 153 (iw (q12.1 + l5)) (q13.2 154 (iw (q13.1 + l5)))) k201_109 rfl rfl ?_
    rfl
set_option maxHeartbeats 4000000 in
theorem jM_run_eq (L : Nat) (a1 : Int) (a2 : Int) (a3 : Int) (g : AMem) : jM_run L a1 a2 a3 g = (jM_isEdge L a1 g).bind (fun q1 => if q1.1 = 0 then ((jM_bad L q1.2).bind (fun q3 => some (q3.1, q3.2))) else ((jM_in L a2 0 999999 q1.2).bind (fun q4 => if q4.1 = 0 then ((jM_bad L q4.2).bind (fun q6 => some (q6.1, q6.2))) else ((jM_in L a3 0 1 q4.2).bind (fun q7 => if q7.1 ≠ 0 then ((jM_isClear L a1 q7.2).bind (fun q9 => if q9.1 ≠ 0 then (jM_run_54 L a1 a2 a3 a2 0 q9.2) else ((jM_no L q9.2).bind (fun q11 => some (q11.1, q11.2))))) else ((jM_bad L q7.2).bind (fun q12 => some (q12.1, q12.2)))))))) := by
  unfold jM_run
  refine q_s (pc' := 1) (ls' := [vR 137, vI a1, vI a2, vI a3, vU, vU, vU, vU, vU]) (st' := [vR 137]) (g' := g) k202_0 rfl rfl ?_
  refine q_s (pc' := 2) (ls' := [vR 137, vI a1, vI a2, vI a3, vU, vU, vU, vU, vU]) (st' := [vI a1, vR 137]) (g' := g) k202_1 rfl rfl ?_
  refine q_callI (ls0 := [vR 137, vI a1]) (rest := []) (pc' := 5) rfl k202_2 rfl (hy4 rfl rfl rfl rfl) rfl rfl hq_146 rfl (fun q1 => ?_)
  refine q_if (P := q1.1 = 0) (t := 27) (pc' := 8) k202_5 Iff.rfl rfl rfl (fun h2 => ?_) (fun h2 => ?_)
  · refine q_s (pc' := 28) (ls' := [vR 137, vI a1, vI a2, vI a3, vU, vU, vU, vU, vU]) (st' := [vR 137]) (g' := q1.2) k202_27 rfl rfl ?_
    refine q_callI (ls0 := [vR 137]) (rest := []) (pc' := 31) rfl k202_28 rfl (hy4 rfl rfl rfl rfl) rfl rfl hq_135 rfl (fun q3 => ?_)
    refine q_s (pc' := 32) (ls' := [vR 137, vI a1, vI a2, vI a3, vU, vU, vU, vU, vU]) (st' := [vL q3.1]) (g' := q3.2) k202_31 rfl rfl ?_
    exact q_e k202_32 rfl rfl rfl
  · refine q_s (pc' := 9) (ls' := [vR 137, vI a1, vI a2, vI a3, vU, vU, vU, vU, vU]) (st' := [vI a2]) (g' := q1.2) k202_8 rfl rfl ?_
    refine q_s (pc' := 10) (ls' := [vR 137, vI a1, vI a2, vI a3, vU, vU, vU, vU, vU]) (st' := [vI 0, vI a2]) (g' := q1.2) k202_9 rfl rfl ?_
    refine q_s (pc' := 12) (ls' := [vR 137, vI a1, vI a2, vI a3, vU, vU, vU, vU, vU]) (st' := [vI 999999, vI 0, vI a2]) (g' := q1.2) k202_10 rfl rfl ?_
    refine q_callI (ls0 := [vI a2, vI 0, vI 999999]) (rest := []) (pc' := 15) rfl k202_12 rfl (hy4 rfl rfl rfl rfl) rfl rfl hq_138 rfl (fun q4 => ?_)
    refine q_if (P := q4.1 = 0) (t := 27) (pc' := 18) k202_15 Iff.rfl rfl rfl (fun h5 => ?_) (fun h5 => ?_)
    · refine q_s (pc' := 28) (ls' := [vR 137, vI a1, vI a2, vI a3, vU, vU, vU, vU, vU]) (st' := [vR 137]) (g' := q4.2) k202_27 rfl rfl ?_
      refine q_callI (ls0 := [vR 137]) (rest := []) (pc' := 31) rfl k202_28 rfl (hy4 rfl rfl rfl rfl) rfl rfl hq_135 rfl (fun q6 => ?_)
      refine q_s (pc' := 32) (ls' := [vR 137, vI a1, vI a2, vI a3, vU, vU, vU, vU, vU]) (st' := [vL q6.1]) (g' := q6.2) k202_31 rfl rfl ?_
      exact q_e k202_32 rfl rfl rfl
    · refine q_s (pc' := 19) (ls' := [vR 137, vI a1, vI a2, vI a3, vU, vU, vU, vU, vU]) (st' := [vI a3]) (g' := q4.2) k202_18 rfl rfl ?_
      refine q_s (pc' := 20) (ls' := [vR 137, vI a1, vI a2, vI a3, vU, vU, vU, vU, vU]) (st' := [vI 0, vI a3]) (g' := q4.2) k202_19 rfl rfl ?_
      refine q_s (pc' := 21) (ls' := [vR 137, vI a1, vI a2, vI a3, vU, vU, vU, vU, vU]) (st' := [vI 1, vI 0, vI a3]) (g' := q4.2) k202_20 rfl rfl ?_
      refine q_callI (ls0 := [vI a3, vI 0, vI 1]) (rest := []) (pc' := 24) rfl k202_21 rfl (hy4 rfl rfl rfl rfl) rfl rfl hq_138 rfl (fun q7 => ?_)
      refine q_if (P := q7.1 ≠ 0) (t := 33) (pc' := 27) k202_24 Iff.rfl rfl rfl (fun h8 => ?_) (fun h8 => ?_)
      · refine q_s (pc' := 34) (ls' := [vR 137, vI a1, vI a2, vI a3, vU, vU, vU, vU, vU]) (st' := [vR 137]) (g' := q7.2) k202_33 rfl rfl ?_
        refine q_s (pc' := 35) (ls' := [vR 137, vI a1, vI a2, vI a3, vU, vU, vU, vU, vU]) (st' := [vI a1, vR 137]) (g' := q7.2) k202_34 rfl rfl ?_
        refine q_callI (ls0 := [vR 137, vI a1, vU, vU]) (rest := []) (pc' := 38) rfl k202_35 rfl (hy4 rfl rfl rfl rfl) rfl rfl hq_167 rfl (fun q9 => ?_)
        refine q_if (P := q9.1 ≠ 0) (t := 47) (pc' := 41) k202_38 Iff.rfl rfl rfl (fun h10 => ?_) (fun h10 => ?_)
        · refine q_s (pc' := 48) (ls' := [vR 137, vI a1, vI a2, vI a3, vU, vU, vU, vU, vU]) (st' := [vI a2]) (g' := q9.2) k202_47 rfl rfl ?_
          refine q_s (pc' := 49) (ls' := [vR 137, vI a1, vI a2, vI a3, vU, vU, vU, vU, vU]) (st' := [vL a2]) (g' := q9.2) k202_48 rfl rfl ?_
          refine q_s (pc' := 51) (ls' := [vR 137, vI a1, vI a2, vI a3, vL a2, vU, vU, vU, vU]) (st' := []) (g' := q9.2) k202_49 rfl rfl ?_
          refine q_s (pc' := 52) (ls' := [vR 137, vI a1, vI a2, vI a3, vL a2, vU, vU, vU, vU]) (st' := [vI 0]) (g' := q9.2) k202_51 rfl rfl ?_
          refine q_s (pc' := 54) (ls' := [vR 137, vI a1, vI a2, vI a3, vL a2, vU, vI 0, vU, vU]) (st' := []) (g' := q9.2) k202_52 rfl rfl ?_
          rfl
        · refine q_s (pc' := 42) (ls' := [vR 137, vI a1, vI a2, vI a3, vU, vU, vU, vU, vU]) (st' := [vR 137]) (g' := q9.2) k202_41 rfl rfl ?_
          refine q_callI (ls0 := [vR 137]) (rest := []) (pc' := 45) rfl k202_42 rfl (hy4 rfl rfl rfl rfl) rfl rfl hq_136 rfl (fun q11 => ?_)
          refine q_s (pc' := 46) (ls' := [vR 137, vI a1, vI a2, vI a3, vU, vU, vU, vU, vU]) (st' := [vL q11.1]) (g' := q11.2) k202_45 rfl rfl ?_
          exact q_e k202_46 rfl rfl rfl
      · refine q_s (pc' := 28) (ls' := [vR 137, vI a1, vI a2, vI a3, vU, vU, vU, vU, vU]) (st' := [vR 137]) (g' := q7.2) k202_27 rfl rfl ?_
        refine q_callI (ls0 := [vR 137]) (rest := []) (pc' := 31) rfl k202_28 rfl (hy4 rfl rfl rfl rfl) rfl rfl hq_135 rfl (fun q12 => ?_)
        refine q_s (pc' := 32) (ls' := [vR 137, vI a1, vI a2, vI a3, vU, vU, vU, vU, vU]) (st' := [vL q12.1]) (g' := q12.2) k202_31 rfl rfl ?_
        exact q_e k202_32 rfl rfl rfl
set_option maxHeartbeats 4000000 in
theorem jM_run_54_eq (L : Nat) (l1 : Int) (l2 : Int) (l3 : Int) (l4 : Int) (l6 : Int) (g : AMem) : jM_run_54 L l1 l2 l3 l4 l6 g = if 32 ≤ l6 then (if l3 ≠ 0 then ((jM_setSteps L l1 (g 137 3) g).bind (fun q15 => jM_run_116 L l1 l2 l3 l4 0 q15)) else ((jM_handsOver L l1 g).bind (fun q16 => jM_run_143 L l1 l2 l3 l4 1 0 q16))) else ((jM_next L l4 g).bind (fun q17 => if 0 ≤ l6 ∧ l6 < 36 then (jM_run_54 L l1 l2 l3 q17.1 (iw (l6 + 1)) (up q17.2 153 l6 (iw (lw ((lw (q17.1.tdiv 65536)) - (lw (q17.1.tdiv 65536)).tdiv 256 * 256))))) else none)) := by
  unfold jM_run_54
  refine q_s (pc' := 56) (ls' := [vR 137, vI l1, vI l2, vI l3, vL l4, vU, vI l6, vU, vU]) (st' := [vI l6]) (g' := g) k202_54 rfl rfl ?_
  refine q_s (pc' := 58) (ls' := [vR 137, vI l1, vI l2, vI l3, vL l4, vU, vI l6, vU, vU]) (st' := [vI 32, vI l6]) (g' := g) k202_56 rfl rfl ?_
  refine q_ic (P := 32 ≤ l6) (t := 92) (pc' := 61) k202_58 Iff.rfl rfl rfl (fun h13 => ?_) (fun h13 => ?_)
  · refine q_s (pc' := 93) (ls' := [vR 137, vI l1, vI l2, vI l3, vL l4, vU, vI l6, vU, vU]) (st' := [vI l3]) (g' := g) k202_92 rfl rfl ?_
    refine q_if (P := l3 ≠ 0) (t := 104) (pc' := 96) k202_93 Iff.rfl rfl rfl (fun h14 => ?_) (fun h14 => ?_)
    · refine q_s (pc' := 105) (ls' := [vR 137, vI l1, vI l2, vI l3, vL l4, vU, vI l6, vU, vU]) (st' := [vR 137]) (g' := g) k202_104 rfl rfl ?_
      refine q_s (pc' := 106) (ls' := [vR 137, vI l1, vI l2, vI l3, vL l4, vU, vI l6, vU, vU]) (st' := [vI l1, vR 137]) (g' := g) k202_105 rfl rfl ?_
      refine q_s (pc' := 107) (ls' := [vR 137, vI l1, vI l2, vI l3, vL l4, vU, vI l6, vU, vU]) (st' := [vR 137, vI l1, vR 137]) (g' := g) k202_106 rfl rfl ?_
      refine q_getI (w := 3) (pc' := 110) k202_107 rfl rfl rfl rfl ?_
      refine q_callV (ls0 := [vR 137, vI l1, vI (g 137 3), vU, vU, vU]) (rest := []) (pc' := 113) rfl k202_110 rfl (hy4 rfl rfl rfl rfl) rfl rfl hq_183 rfl (fun q15 => ?_)
      refine q_s (pc' := 114) (ls' := [vR 137, vI l1, vI l2, vI l3, vL l4, vU, vI l6, vU, vU]) (st' := [vI 0]) (g' := q15) k202_113 rfl rfl ?_
      refine q_s (pc' := 116) (ls' := [vR 137, vI l1, vI l2, vI l3, vL l4, vU, vI 0, vU, vU]) (st' := []) (g' := q15) k202_114 rfl rfl ?_
      rfl
    · refine q_s (pc' := 97) (ls' := [vR 137, vI l1, vI l2, vI l3, vL l4, vU, vI l6, vU, vU]) (st' := [vR 137]) (g' := g) k202_96 rfl rfl ?_
      refine q_s (pc' := 98) (ls' := [vR 137, vI l1, vI l2, vI l3, vL l4, vU, vI l6, vU, vU]) (st' := [vI l1, vR 137]) (g' := g) k202_97 rfl rfl ?_
      refine q_callV (ls0 := [vR 137, vI l1, vU, vU, vU, vU]) (rest := []) (pc' := 101) rfl k202_98 rfl (hy4 rfl rfl rfl rfl) rfl rfl hq_201 rfl (fun q16 => ?_)
      refine q_s (pc' := 137) (ls' := [vR 137, vI l1, vI l2, vI l3, vL l4, vU, vI l6, vU, vU]) (st' := []) (g' := q16) k202_101 rfl rfl ?_
      refine q_s (pc' := 138) (ls' := [vR 137, vI l1, vI l2, vI l3, vL l4, vU, vI l6, vU, vU]) (st' := [vL 1]) (g' := q16) k202_137 rfl rfl ?_
      refine q_s (pc' := 140) (ls' := [vR 137, vI l1, vI l2, vI l3, vL l4, vU, vL 1, vU, vU]) (st' := []) (g' := q16) k202_138 rfl rfl ?_
      refine q_s (pc' := 141) (ls' := [vR 137, vI l1, vI l2, vI l3, vL l4, vU, vL 1, vU, vU]) (st' := [vI 0]) (g' := q16) k202_140 rfl rfl ?_
      refine q_s (pc' := 143) (ls' := [vR 137, vI l1, vI l2, vI l3, vL l4, vU, vL 1, vU, vI 0]) (st' := []) (g' := q16) k202_141 rfl rfl ?_
      rfl
  · refine q_s (pc' := 63) (ls' := [vR 137, vI l1, vI l2, vI l3, vL l4, vU, vI l6, vU, vU]) (st' := [vL l4]) (g' := g) k202_61 rfl rfl ?_
    refine q_callL (ls0 := [vL l4, vU]) (rest := []) (pc' := 66) rfl k202_63 rfl (hy4 rfl rfl rfl rfl) rfl rfl hq_197 rfl (fun q17 => ?_)
    refine q_s (pc' := 68) (ls' := [vR 137, vI l1, vI l2, vI l3, vL q17.1, vU, vI l6, vU, vU]) (st' := []) (g' := q17.2) k202_66 rfl rfl ?_
    refine q_s (pc' := 69) (ls' := [vR 137, vI l1, vI l2, vI l3, vL q17.1, vU, vI l6, vU, vU]) (st' := [vR 137]) (g' := q17.2) k202_68 rfl rfl ?_
    refine q_getF (r := 153) (pc' := 72) k202_69 rfl rfl rfl rfl ?_
    refine q_s (pc' := 74) (ls' := [vR 137, vI l1, vI l2, vI l3, vL q17.1, vU, vI l6, vU, vU]) (st' := [vI l6, vR 153]) (g' := q17.2) k202_72 rfl rfl ?_
    refine q_s (pc' := 76) (ls' := [vR 137, vI l1, vI l2, vI l3, vL q17.1, vU, vI l6, vU, vU]) (st' := [vL q17.1, vI l6, vR 153]) (g' := q17.2) k202_74 rfl rfl ?_
    refine q_s (pc' := 79) (ls' := [vR 137, vI l1, vI l2, vI l3, vL q17.1, vU, vI l6, vU, vU]) (st' := [vL 65536, vL q17.1, vI l6, vR 153]) (g' := q17.2) k202_76 rfl rfl ?_
    refine q_s (pc' := 80) (ls' := [vR 137, vI l1, vI l2, vI l3, vL q17.1, vU, vI l6, vU, vU]) (st' := [vL (lw (q17.1.tdiv 65536)), vI l6, vR 153]) (g' := q17.2) k202_79 rfl rfl ?_
    refine q_s (pc' := 83) (ls' := [vR 137, vI l1, vI l2, vI l3, vL q17.1, vU, vI l6, vU, vU]) (st' := [vL 256, vL (lw (q17.1.tdiv 65536)), vI l6, vR 153]) (g' := q17.2) k202_80 rfl rfl ?_
    refine q_s (pc' := 84) (ls' := [vR 137, vI l1, vI l2, vI l3, vL q17.1, vU, vI l6, vU, vU]) (st' := [vL (lw ((lw (q17.1.tdiv 65536)) - (lw (q17.1.tdiv 65536)).tdiv 256 * 256)), vI l6, vR 153]) (g' := q17.2) k202_83 rfl rfl ?_
    refine q_s (pc' := 85) (ls' := [vR 137, vI l1, vI l2, vI l3, vL q17.1, vU, vI l6, vU, vU]) (st' := [vI (iw (lw ((lw (q17.1.tdiv 65536)) - (lw (q17.1.tdiv 65536)).tdiv 256 * 256))), vI l6, vR 153]) (g' := q17.2) k202_84 rfl rfl ?_
    refine q_iast (n := 36) (pc' := 86) rfl k202_85 rfl (by decide) rfl (fun h18 => ?_)
    refine q_s (pc' := 89) (ls' := [vR 137, vI l1, vI l2, vI l3, vL q17.1, vU, vI (iw (l6 + 1)), vU, vU]) (st' := []) (g' := up q17.2 153 l6 (iw (lw ((lw (q17.1.tdiv 65536)) - (lw (q17.1.tdiv 65536)).tdiv 256 * 256)))) k202_86 rfl rfl ?_
    refine q_s (pc' := 54) (ls' := [vR 137, vI l1, vI l2, vI l3, vL q17.1, vU, vI (iw (l6 + 1)), vU, vU]) (st' := []) (g' := up q17.2 153 l6 (iw (lw ((lw (q17.1.tdiv 65536)) - (lw (q17.1.tdiv 65536)).tdiv 256 * 256)))) k202_89 rfl rfl ?_
    rfl
set_option maxHeartbeats 4000000 in
theorem jM_run_116_eq (L : Nat) (l1 : Int) (l2 : Int) (l3 : Int) (l4 : Int) (l6 : Int) (g : AMem) : jM_run_116 L l1 l2 l3 l4 l6 g = if g 137 10 ≤ l6 then (jM_run_143 L l1 l2 l3 l4 1 0 g) else ((jM_stepsOn L l6 g).bind (fun q20 => jM_run_116 L l1 l2 l3 l4 (iw (l6 + 1)) q20)) := by
  unfold jM_run_116
  refine q_s (pc' := 118) (ls' := [vR 137, vI l1, vI l2, vI l3, vL l4, vU, vI l6, vU, vU]) (st' := [vI l6]) (g' := g) k202_116 rfl rfl ?_
  refine q_s (pc' := 119) (ls' := [vR 137, vI l1, vI l2, vI l3, vL l4, vU, vI l6, vU, vU]) (st' := [vR 137, vI l6]) (g' := g) k202_118 rfl rfl ?_
  refine q_getI (w := 10) (pc' := 122) k202_119 rfl rfl rfl rfl ?_
  refine q_ic (P := g 137 10 ≤ l6) (t := 137) (pc' := 125) k202_122 Iff.rfl rfl rfl (fun h19 => ?_) (fun h19 => ?_)
  · refine q_s (pc' := 138) (ls' := [vR 137, vI l1, vI l2, vI l3, vL l4, vU, vI l6, vU, vU]) (st' := [vL 1]) (g' := g) k202_137 rfl rfl ?_
    refine q_s (pc' := 140) (ls' := [vR 137, vI l1, vI l2, vI l3, vL l4, vU, vL 1, vU, vU]) (st' := []) (g' := g) k202_138 rfl rfl ?_
    refine q_s (pc' := 141) (ls' := [vR 137, vI l1, vI l2, vI l3, vL l4, vU, vL 1, vU, vU]) (st' := [vI 0]) (g' := g) k202_140 rfl rfl ?_
    refine q_s (pc' := 143) (ls' := [vR 137, vI l1, vI l2, vI l3, vL l4, vU, vL 1, vU, vI 0]) (st' := []) (g' := g) k202_141 rfl rfl ?_
    rfl
  · refine q_s (pc' := 126) (ls' := [vR 137, vI l1, vI l2, vI l3, vL l4, vU, vI l6, vU, vU]) (st' := [vR 137]) (g' := g) k202_125 rfl rfl ?_
    refine q_s (pc' := 128) (ls' := [vR 137, vI l1, vI l2, vI l3, vL l4, vU, vI l6, vU, vU]) (st' := [vI l6, vR 137]) (g' := g) k202_126 rfl rfl ?_
    refine q_callV (ls0 := [vR 137, vI l6, vU, vU, vU, vU]) (rest := []) (pc' := 131) rfl k202_128 rfl (hy4 rfl rfl rfl rfl) rfl rfl hq_200 rfl (fun q20 => ?_)
    refine q_s (pc' := 134) (ls' := [vR 137, vI l1, vI l2, vI l3, vL l4, vU, vI (iw (l6 + 1)), vU, vU]) (st' := []) (g' := q20) k202_131 rfl rfl ?_
    refine q_s (pc' := 116) (ls' := [vR 137, vI l1, vI l2, vI l3, vL l4, vU, vI (iw (l6 + 1)), vU, vU]) (st' := []) (g' := q20) k202_134 rfl rfl ?_
    rfl
set_option maxHeartbeats 4000000 in
theorem jM_run_143_eq (L : Nat) (l1 : Int) (l2 : Int) (l3 : Int) (l4 : Int) (l6 : Int) (l8 : Int) (g : AMem) : jM_run_143 L l1 l2 l3 l4 l6 l8 g = if 32 ≤ l8 then (some (l6, g)) else (if 0 ≤ l8 ∧ l8 < 36 then (jM_run_143 L l1 l2 l3 l4 (lw ((lw (31 * l6)) + (g 153 l8))) (iw (l8 + 1)) g) else none) := by
  unfold jM_run_143
  refine q_s (pc' := 145) (ls' := [vR 137, vI l1, vI l2, vI l3, vL l4, vU, vL l6, vU, vI l8]) (st' := [vI l8]) (g' := g) k202_143 rfl rfl ?_
  refine q_s (pc' := 147) (ls' := [vR 137, vI l1, vI l2, vI l3, vL l4, vU, vL l6, vU, vI l8]) (st' := [vI 32, vI l8]) (g' := g) k202_145 rfl rfl ?_
  refine q_ic (P := 32 ≤ l8) (t := 173) (pc' := 150) k202_147 Iff.rfl rfl rfl (fun h21 => ?_) (fun h21 => ?_)
  · refine q_s (pc' := 175) (ls' := [vR 137, vI l1, vI l2, vI l3, vL l4, vU, vL l6, vU, vI l8]) (st' := [vL l6]) (g' := g) k202_173 rfl rfl ?_
    exact q_e k202_175 rfl rfl rfl
  · refine q_s (pc' := 153) (ls' := [vR 137, vI l1, vI l2, vI l3, vL l4, vU, vL l6, vU, vI l8]) (st' := [vL 31]) (g' := g) k202_150 rfl rfl ?_
    refine q_s (pc' := 155) (ls' := [vR 137, vI l1, vI l2, vI l3, vL l4, vU, vL l6, vU, vI l8]) (st' := [vL l6, vL 31]) (g' := g) k202_153 rfl rfl ?_
    refine q_s (pc' := 156) (ls' := [vR 137, vI l1, vI l2, vI l3, vL l4, vU, vL l6, vU, vI l8]) (st' := [vL (lw (31 * l6))]) (g' := g) k202_155 rfl rfl ?_
    refine q_s (pc' := 157) (ls' := [vR 137, vI l1, vI l2, vI l3, vL l4, vU, vL l6, vU, vI l8]) (st' := [vR 137, vL (lw (31 * l6))]) (g' := g) k202_156 rfl rfl ?_
    refine q_getF (r := 153) (pc' := 160) k202_157 rfl rfl rfl rfl ?_
    refine q_s (pc' := 162) (ls' := [vR 137, vI l1, vI l2, vI l3, vL l4, vU, vL l6, vU, vI l8]) (st' := [vI l8, vR 153, vL (lw (31 * l6))]) (g' := g) k202_160 rfl rfl ?_
    refine q_iald (n := 36) (pc' := 163) rfl k202_162 rfl rfl (fun h22 => ?_)
    refine q_s (pc' := 164) (ls' := [vR 137, vI l1, vI l2, vI l3, vL l4, vU, vL l6, vU, vI l8]) (st' := [vL (g 153 l8), vL (lw (31 * l6))]) (g' := g) k202_163 rfl rfl ?_
    refine q_s (pc' := 165) (ls' := [vR 137, vI l1, vI l2, vI l3, vL l4, vU, vL l6, vU, vI l8]) (st' := [vL (lw ((lw (31 * l6)) + (g 153 l8)))]) (g' := g) k202_164 rfl rfl ?_
    refine q_s (pc' := 167) (ls' := [vR 137, vI l1, vI l2, vI l3, vL l4, vU, vL (lw ((lw (31 * l6)) + (g 153 l8))), vU, vI l8]) (st' := []) (g' := g) k202_165 rfl rfl ?_
    refine q_s (pc' := 170) (ls' := [vR 137, vI l1, vI l2, vI l3, vL l4, vU, vL (lw ((lw (31 * l6)) + (g 153 l8))), vU, vI (iw (l8 + 1))]) (st' := []) (g' := g) k202_167 rfl rfl ?_
    refine q_s (pc' := 143) (ls' := [vR 137, vI l1, vI l2, vI l3, vL l4, vU, vL (lw ((lw (31 * l6)) + (g 153 l8))), vU, vI (iw (l8 + 1))]) (st' := []) (g' := g) k202_170 rfl rfl ?_
    rfl
set_option maxHeartbeats 4000000 in
theorem jM_whole_eq (L : Nat) (a1 : Int) (g : AMem) : jM_whole L a1 g = (jM_in L a1 0 3 g).bind (fun q1 => if q1.1 ≠ 0 then (jM_whole_18 L a1 0 0 vU vU vU q1.2) else ((jM_bad L q1.2).bind (fun q3 => some (q3.1, q3.2)))) := by
  unfold jM_whole
  refine q_s (pc' := 1) (ls' := [vR 137, vI a1, vU, vU, vU, vU, vU]) (st' := [vI a1]) (g' := g) k203_0 rfl rfl ?_
  refine q_s (pc' := 2) (ls' := [vR 137, vI a1, vU, vU, vU, vU, vU]) (st' := [vI 0, vI a1]) (g' := g) k203_1 rfl rfl ?_
  refine q_s (pc' := 3) (ls' := [vR 137, vI a1, vU, vU, vU, vU, vU]) (st' := [vI 3, vI 0, vI a1]) (g' := g) k203_2 rfl rfl ?_
  refine q_callI (ls0 := [vI a1, vI 0, vI 3]) (rest := []) (pc' := 6) rfl k203_3 rfl (hy4 rfl rfl rfl rfl) rfl rfl hq_138 rfl (fun q1 => ?_)
  refine q_if (P := q1.1 ≠ 0) (t := 14) (pc' := 9) k203_6 Iff.rfl rfl rfl (fun h2 => ?_) (fun h2 => ?_)
  · refine q_s (pc' := 15) (ls' := [vR 137, vI a1, vU, vU, vU, vU, vU]) (st' := [vI 0]) (g' := q1.2) k203_14 rfl rfl ?_
    refine q_s (pc' := 16) (ls' := [vR 137, vI a1, vI 0, vU, vU, vU, vU]) (st' := []) (g' := q1.2) k203_15 rfl rfl ?_
    refine q_s (pc' := 17) (ls' := [vR 137, vI a1, vI 0, vU, vU, vU, vU]) (st' := [vI 0]) (g' := q1.2) k203_16 rfl rfl ?_
    refine q_s (pc' := 18) (ls' := [vR 137, vI a1, vI 0, vI 0, vU, vU, vU]) (st' := []) (g' := q1.2) k203_17 rfl rfl ?_
    rfl
  · refine q_s (pc' := 10) (ls' := [vR 137, vI a1, vU, vU, vU, vU, vU]) (st' := [vR 137]) (g' := q1.2) k203_9 rfl rfl ?_
    refine q_callI (ls0 := [vR 137]) (rest := []) (pc' := 13) rfl k203_10 rfl (hy4 rfl rfl rfl rfl) rfl rfl hq_135 rfl (fun q3 => ?_)
    exact q_e k203_13 rfl rfl rfl
set_option maxHeartbeats 4000000 in
theorem jM_whole_18_eq (L : Nat) (l1 : Int) (l2 : Int) (l3 : Int) (w4 : AVal) (w5 : AVal) (w6 : AVal) (g : AMem) : jM_whole_18 L l1 l2 l3 w4 w5 w6 g = if g 137 2 ≤ l3 then (some (l2, g)) else ((jM_isClear L l3 g).bind (fun q5 => if q5.1 = 0 then (if q5.1 = 0 then (if l1 ≠ 0 then (if l1 ≠ 1 then (if l1 ≠ 2 then (if q5.1 = 0 then (jM_whole_18 L l1 (iw (l2 + 0)) (iw (l3 + 1)) (vI q5.1) (vI 0) (vI 0) q5.2) else (jM_whole_18 L l1 (iw (l2 + (q5.2 137 10))) (iw (l3 + 1)) (vI q5.1) (vI 0) (vI 0) q5.2)) else (if q5.1 = 0 then (jM_whole_18 L l1 (iw (l2 + 1)) (iw (l3 + 1)) (vI q5.1) (vI 0) (vI 0) q5.2) else (jM_whole_18 L l1 (iw (l2 + 0)) (iw (l3 + 1)) (vI q5.1) (vI 0) (vI 0) q5.2))) else (jM_whole_18 L l1 (iw (l2 + 0)) (iw (l3 + 1)) (vI q5.1) (vI 0) (vI 0) q5.2)) else (if 0 ≤ l3 ∧ l3 < 16 then (jM_whole_18 L l1 (iw (l2 + (iw (0 * (q5.2 143 l3))))) (iw (l3 + 1)) (vI q5.1) (vI 0) (vI 0) q5.2) else none)) else (if q5.2 137 10 ≤ 0 then (if l1 ≠ 0 then (if l1 ≠ 1 then (if l1 ≠ 2 then (if q5.1 = 0 then (jM_whole_18 L l1 (iw (l2 + 0)) (iw (l3 + 1)) (vI q5.1) (vI 0) (vI 0) q5.2) else (jM_whole_18 L l1 (iw (l2 + (q5.2 137 10))) (iw (l3 + 1)) (vI q5.1) (vI 0) (vI 0) q5.2)) else (if q5.1 = 0 then (jM_whole_18 L l1 (iw (l2 + 1)) (iw (l3 + 1)) (vI q5.1) (vI 0) (vI 0) q5.2) else (jM_whole_18 L l1 (iw (l2 + 0)) (iw (l3 + 1)) (vI q5.1) (vI 0) (vI 0) q5.2))) else (jM_whole_18 L l1 (iw (l2 + 0)) (iw (l3 + 1)) (vI q5.1) (vI 0) (vI 0) q5.2)) else (if 0 ≤ l3 ∧ l3 < 16 then (jM_whole_18 L l1 (iw (l2 + (iw (0 * (q5.2 143 l3))))) (iw (l3 + 1)) (vI q5.1) (vI 0) (vI 0) q5.2) else none)) else ((jM_whereOf L l3 q5.2).bind (fun q21 => if q21.1 ≠ 2 then (if l1 ≠ 0 then (if l1 ≠ 1 then (if l1 ≠ 2 then (if q5.1 = 0 then (jM_whole_18 L l1 (iw (l2 + 0)) (iw (l3 + 1)) (vI q5.1) (vI 0) (vI 0) q21.2) else (jM_whole_18 L l1 (iw (l2 + (q21.2 137 10))) (iw (l3 + 1)) (vI q5.1) (vI 0) (vI 0) q21.2)) else (if q5.1 = 0 then (jM_whole_18 L l1 (iw (l2 + 1)) (iw (l3 + 1)) (vI q5.1) (vI 0) (vI 0) q21.2) else (jM_whole_18 L l1 (iw (l2 + 0)) (iw (l3 + 1)) (vI q5.1) (vI 0) (vI 0) q21.2))) else (jM_whole_18 L l1 (iw (l2 + 0)) (iw (l3 + 1)) (vI q5.1) (vI 0) (vI 0) q21.2)) else (if 0 ≤ l3 ∧ l3 < 16 then (jM_whole_18 L l1 (iw (l2 + (iw (0 * (q21.2 143 l3))))) (iw (l3 + 1)) (vI q5.1) (vI 0) (vI 0) q21.2) else none)) else (if l1 ≠ 0 then (if l1 ≠ 1 then (if l1 ≠ 2 then (if q5.1 = 0 then (jM_whole_18 L l1 (iw (l2 + 0)) (iw (l3 + 1)) (vI q5.1) (vI 0) (vI 1) q21.2) else (jM_whole_18 L l1 (iw (l2 + (q21.2 137 10))) (iw (l3 + 1)) (vI q5.1) (vI 0) (vI 1) q21.2)) else (if q5.1 = 0 then (jM_whole_18 L l1 (iw (l2 + 1)) (iw (l3 + 1)) (vI q5.1) (vI 0) (vI 1) q21.2) else (jM_whole_18 L l1 (iw (l2 + 0)) (iw (l3 + 1)) (vI q5.1) (vI 0) (vI 1) q21.2))) else (jM_whole_18 L l1 (iw (l2 + 1)) (iw (l3 + 1)) (vI q5.1) (vI 0) (vI 1) q21.2)) else (if 0 ≤ l3 ∧ l3 < 16 then (jM_whole_18 L l1 (iw (l2 + (iw (0 * (q21.2 143 l3))))) (iw (l3 + 1)) (vI q5.1) (vI 0) (vI 1) q21.2) else none)))))) else ((jM_costBy L l3 (q5.2 137 3) q5.2).bind (fun q35 => if q5.1 = 0 then (if l1 ≠ 0 then (if l1 ≠ 1 then (if l1 ≠ 2 then (if q5.1 = 0 then (jM_whole_18 L l1 (iw (l2 + 0)) (iw (l3 + 1)) (vI q5.1) (vI q35.1) (vI 0) q35.2) else (jM_whole_18 L l1 (iw (l2 + (q35.2 137 10))) (iw (l3 + 1)) (vI q5.1) (vI q35.1) (vI 0) q35.2)) else (if q5.1 = 0 then (jM_whole_18 L l1 (iw (l2 + 1)) (iw (l3 + 1)) (vI q5.1) (vI q35.1) (vI 0) q35.2) else (jM_whole_18 L l1 (iw (l2 + 0)) (iw (l3 + 1)) (vI q5.1) (vI q35.1) (vI 0) q35.2))) else (jM_whole_18 L l1 (iw (l2 + 0)) (iw (l3 + 1)) (vI q5.1) (vI q35.1) (vI 0) q35.2)) else (if 0 ≤ l3 ∧ l3 < 16 then (jM_whole_18 L l1 (iw (l2 + (iw (q35.1 * (q35.2 143 l3))))) (iw (l3 + 1)) (vI q5.1) (vI q35.1) (vI 0) q35.2) else none)) else (if q35.2 137 10 ≤ 0 then (if l1 ≠ 0 then (if l1 ≠ 1 then (if l1 ≠ 2 then (if q5.1 = 0 then (jM_whole_18 L l1 (iw (l2 + 0)) (iw (l3 + 1)) (vI q5.1) (vI q35.1) (vI 0) q35.2) else (jM_whole_18 L l1 (iw (l2 + (q35.2 137 10))) (iw (l3 + 1)) (vI q5.1) (vI q35.1) (vI 0) q35.2)) else (if q5.1 = 0 then (jM_whole_18 L l1 (iw (l2 + 1)) (iw (l3 + 1)) (vI q5.1) (vI q35.1) (vI 0) q35.2) else (jM_whole_18 L l1 (iw (l2 + 0)) (iw (l3 + 1)) (vI q5.1) (vI q35.1) (vI 0) q35.2))) else (jM_whole_18 L l1 (iw (l2 + 0)) (iw (l3 + 1)) (vI q5.1) (vI q35.1) (vI 0) q35.2)) else (if 0 ≤ l3 ∧ l3 < 16 then (jM_whole_18 L l1 (iw (l2 + (iw (q35.1 * (q35.2 143 l3))))) (iw (l3 + 1)) (vI q5.1) (vI q35.1) (vI 0) q35.2) else none)) else ((jM_whereOf L l3 q35.2).bind (fun q50 => if q50.1 ≠ 2 then (if l1 ≠ 0 then (if l1 ≠ 1 then (if l1 ≠ 2 then (if q5.1 = 0 then (jM_whole_18 L l1 (iw (l2 + 0)) (iw (l3 + 1)) (vI q5.1) (vI q35.1) (vI 0) q50.2) else (jM_whole_18 L l1 (iw (l2 + (q50.2 137 10))) (iw (l3 + 1)) (vI q5.1) (vI q35.1) (vI 0) q50.2)) else (if q5.1 = 0 then (jM_whole_18 L l1 (iw (l2 + 1)) (iw (l3 + 1)) (vI q5.1) (vI q35.1) (vI 0) q50.2) else (jM_whole_18 L l1 (iw (l2 + 0)) (iw (l3 + 1)) (vI q5.1) (vI q35.1) (vI 0) q50.2))) else (jM_whole_18 L l1 (iw (l2 + 0)) (iw (l3 + 1)) (vI q5.1) (vI q35.1) (vI 0) q50.2)) else (if 0 ≤ l3 ∧ l3 < 16 then (jM_whole_18 L l1 (iw (l2 + (iw (q35.1 * (q50.2 143 l3))))) (iw (l3 + 1)) (vI q5.1) (vI q35.1) (vI 0) q50.2) else none)) else (if l1 ≠ 0 then (if l1 ≠ 1 then (if l1 ≠ 2 then (if q5.1 = 0 then (jM_whole_18 L l1 (iw (l2 + 0)) (iw (l3 + 1)) (vI q5.1) (vI q35.1) (vI 1) q50.2) else (jM_whole_18 L l1 (iw (l2 + (q50.2 137 10))) (iw (l3 + 1)) (vI q5.1) (vI q35.1) (vI 1) q50.2)) else (if q5.1 = 0 then (jM_whole_18 L l1 (iw (l2 + 1)) (iw (l3 + 1)) (vI q5.1) (vI q35.1) (vI 1) q50.2) else (jM_whole_18 L l1 (iw (l2 + 0)) (iw (l3 + 1)) (vI q5.1) (vI q35.1) (vI 1) q50.2))) else (jM_whole_18 L l1 (iw (l2 + 1)) (iw (l3 + 1)) (vI q5.1) (vI q35.1) (vI 1) q50.2)) else (if 0 ≤ l3 ∧ l3 < 16 then (jM_whole_18 L l1 (iw (l2 + (iw (q35.1 * (q50.2 143 l3))))) (iw (l3 + 1)) (vI q5.1) (vI q35.1) (vI 1) q50.2) else none))))))))) := by
  unfold jM_whole_18
  refine q_s (pc' := 19) (ls' := [vR 137, vI l1, vI l2, vI l3, w4, w5, w6]) (st' := [vI l3]) (g' := g) k203_18 rfl rfl ?_
  refine q_s (pc' := 20) (ls' := [vR 137, vI l1, vI l2, vI l3, w4, w5, w6]) (st' := [vR 137, vI l3]) (g' := g) k203_19 rfl rfl ?_
  refine q_getI (w := 2) (pc' := 23) k203_20 rfl rfl rfl rfl ?_
  refine q_ic (P := g 137 2 ≤ l3) (t := 155) (pc' := 26) k203_23 Iff.rfl rfl rfl (fun h4 => ?_) (fun h4 => ?_)
  · refine q_s (pc' := 156) (ls' := [vR 137, vI l1, vI l2, vI l3, w4, w5, w6]) (st' := [vI l2]) (g' := g) k203_155 rfl rfl ?_
    exact q_e k203_156 rfl rfl rfl
  · refine q_s (pc' := 27) (ls' := [vR 137, vI l1, vI l2, vI l3, w4, w5, w6]) (st' := [vR 137]) (g' := g) k203_26 rfl rfl ?_
    refine q_s (pc' := 28) (ls' := [vR 137, vI l1, vI l2, vI l3, w4, w5, w6]) (st' := [vI l3, vR 137]) (g' := g) k203_27 rfl rfl ?_
    refine q_callI (ls0 := [vR 137, vI l3, vU, vU]) (rest := []) (pc' := 31) rfl k203_28 rfl (hy4 rfl rfl rfl rfl) rfl rfl hq_167 rfl (fun q5 => ?_)
    refine q_s (pc' := 33) (ls' := [vR 137, vI l1, vI l2, vI l3, vI q5.1, w5, w6]) (st' := []) (g' := q5.2) k203_31 rfl rfl ?_
    refine q_s (pc' := 35) (ls' := [vR 137, vI l1, vI l2, vI l3, vI q5.1, w5, w6]) (st' := [vI q5.1]) (g' := q5.2) k203_33 rfl rfl ?_
    refine q_if (P := q5.1 = 0) (t := 50) (pc' := 38) k203_35 Iff.rfl rfl rfl (fun h6 => ?_) (fun h6 => ?_)
    · refine q_s (pc' := 51) (ls' := [vR 137, vI l1, vI l2, vI l3, vI q5.1, w5, w6]) (st' := [vI 0]) (g' := q5.2) k203_50 rfl rfl ?_
      refine q_s (pc' := 53) (ls' := [vR 137, vI l1, vI l2, vI l3, vI q5.1, vI 0, w6]) (st' := []) (g' := q5.2) k203_51 rfl rfl ?_
      refine q_s (pc' := 55) (ls' := [vR 137, vI l1, vI l2, vI l3, vI q5.1, vI 0, w6]) (st' := [vI q5.1]) (g' := q5.2) k203_53 rfl rfl ?_
      refine q_if (P := q5.1 = 0) (t := 78) (pc' := 58) k203_55 Iff.rfl rfl rfl (fun h7 => ?_) (fun h7 => ?_)
      · refine q_s (pc' := 79) (ls' := [vR 137, vI l1, vI l2, vI l3, vI q5.1, vI 0, w6]) (st' := [vI 0]) (g' := q5.2) k203_78 rfl rfl ?_
        refine q_s (pc' := 81) (ls' := [vR 137, vI l1, vI l2, vI l3, vI q5.1, vI 0, vI 0]) (st' := []) (g' := q5.2) k203_79 rfl rfl ?_
        refine q_s (pc' := 82) (ls' := [vR 137, vI l1, vI l2, vI l3, vI q5.1, vI 0, vI 0]) (st' := [vI l2]) (g' := q5.2) k203_81 rfl rfl ?_
        refine q_s (pc' := 83) (ls' := [vR 137, vI l1, vI l2, vI l3, vI q5.1, vI 0, vI 0]) (st' := [vI l1, vI l2]) (g' := q5.2) k203_82 rfl rfl ?_
        refine q_if (P := l1 ≠ 0) (t := 98) (pc' := 86) k203_83 Iff.rfl rfl rfl (fun h8 => ?_) (fun h8 => ?_)
        · refine q_s (pc' := 99) (ls' := [vR 137, vI l1, vI l2, vI l3, vI q5.1, vI 0, vI 0]) (st' := [vI l1, vI l2]) (g' := q5.2) k203_98 rfl rfl ?_
          refine q_s (pc' := 100) (ls' := [vR 137, vI l1, vI l2, vI l3, vI q5.1, vI 0, vI 0]) (st' := [vI 1, vI l1, vI l2]) (g' := q5.2) k203_99 rfl rfl ?_
          refine q_ic (P := l1 ≠ 1) (t := 116) (pc' := 103) k203_100 Iff.rfl rfl rfl (fun h9 => ?_) (fun h9 => ?_)
          · refine q_s (pc' := 117) (ls' := [vR 137, vI l1, vI l2, vI l3, vI q5.1, vI 0, vI 0]) (st' := [vI l1, vI l2]) (g' := q5.2) k203_116 rfl rfl ?_
            refine q_s (pc' := 118) (ls' := [vR 137, vI l1, vI l2, vI l3, vI q5.1, vI 0, vI 0]) (st' := [vI 2, vI l1, vI l2]) (g' := q5.2) k203_117 rfl rfl ?_
            refine q_ic (P := l1 ≠ 2) (t := 134) (pc' := 121) k203_118 Iff.rfl rfl rfl (fun h10 => ?_) (fun h10 => ?_)
            · refine q_s (pc' := 136) (ls' := [vR 137, vI l1, vI l2, vI l3, vI q5.1, vI 0, vI 0]) (st' := [vI q5.1, vI l2]) (g' := q5.2) k203_134 rfl rfl ?_
              refine q_if (P := q5.1 = 0) (t := 146) (pc' := 139) k203_136 Iff.rfl rfl rfl (fun h11 => ?_) (fun h11 => ?_)
              · refine q_s (pc' := 147) (ls' := [vR 137, vI l1, vI l2, vI l3, vI q5.1, vI 0, vI 0]) (st' := [vI 0, vI l2]) (g' := q5.2) k203_146 rfl rfl ?_
                refine q_s (pc' := 148) (ls' := [vR 137, vI l1, vI l2, vI l3, vI q5.1, vI 0, vI 0]) (st' := [vI (iw (l2 + 0))]) (g' := q5.2) k203_147 rfl rfl ?_
                refine q_s (pc' := 149) (ls' := [vR 137, vI l1, vI (iw (l2 + 0)), vI l3, vI q5.1, vI 0, vI 0]) (st' := []) (g' := q5.2) k203_148 rfl rfl ?_
                refine q_s (pc' := 152) (ls' := [vR 137, vI l1, vI (iw (l2 + 0)), vI (iw (l3 + 1)), vI q5.1, vI 0, vI 0]) (st' := []) (g' := q5.2) k203_149 rfl rfl ?_
                refine q_s (pc' := 18) (ls' := [vR 137, vI l1, vI (iw (l2 + 0)), vI (iw (l3 + 1)), vI q5.1, vI 0, vI 0]) (st' := []) (g' := q5.2) k203_152 rfl rfl ?_
                rfl
              · refine q_s (pc' := 140) (ls' := [vR 137, vI l1, vI l2, vI l3, vI q5.1, vI 0, vI 0]) (st' := [vR 137, vI l2]) (g' := q5.2) k203_139 rfl rfl ?_
                refine q_getI (w := 10) (pc' := 143) k203_140 rfl rfl rfl rfl ?_
                refine q_s (pc' := 147) (ls' := [vR 137, vI l1, vI l2, vI l3, vI q5.1, vI 0, vI 0]) (st' := [vI (q5.2 137 10), vI l2]) (g' := q5.2) k203_143 rfl rfl ?_
                refine q_s (pc' := 148) (ls' := [vR 137, vI l1, vI l2, vI l3, vI q5.1, vI 0, vI 0]) (st' := [vI (iw (l2 + (q5.2 137 10)))]) (g' := q5.2) k203_147 rfl rfl ?_
                refine q_s (pc' := 149) (ls' := [vR 137, vI l1, vI (iw (l2 + (q5.2 137 10))), vI l3, vI q5.1, vI 0, vI 0]) (st' := []) (g' := q5.2) k203_148 rfl rfl ?_
                refine q_s (pc' := 152) (ls' := [vR 137, vI l1, vI (iw (l2 + (q5.2 137 10))), vI (iw (l3 + 1)), vI q5.1, vI 0, vI 0]) (st' := []) (g' := q5.2) k203_149 rfl rfl ?_
                refine q_s (pc' := 18) (ls' := [vR 137, vI l1, vI (iw (l2 + (q5.2 137 10))), vI (iw (l3 + 1)), vI q5.1, vI 0, vI 0]) (st' := []) (g' := q5.2) k203_152 rfl rfl ?_
                rfl
            · refine q_s (pc' := 123) (ls' := [vR 137, vI l1, vI l2, vI l3, vI q5.1, vI 0, vI 0]) (st' := [vI q5.1, vI l2]) (g' := q5.2) k203_121 rfl rfl ?_
              refine q_if (P := q5.1 = 0) (t := 130) (pc' := 126) k203_123 Iff.rfl rfl rfl (fun h12 => ?_) (fun h12 => ?_)
              · refine q_s (pc' := 131) (ls' := [vR 137, vI l1, vI l2, vI l3, vI q5.1, vI 0, vI 0]) (st' := [vI 1, vI l2]) (g' := q5.2) k203_130 rfl rfl ?_
                refine q_s (pc' := 147) (ls' := [vR 137, vI l1, vI l2, vI l3, vI q5.1, vI 0, vI 0]) (st' := [vI 1, vI l2]) (g' := q5.2) k203_131 rfl rfl ?_
                refine q_s (pc' := 148) (ls' := [vR 137, vI l1, vI l2, vI l3, vI q5.1, vI 0, vI 0]) (st' := [vI (iw (l2 + 1))]) (g' := q5.2) k203_147 rfl rfl ?_
                refine q_s (pc' := 149) (ls' := [vR 137, vI l1, vI (iw (l2 + 1)), vI l3, vI q5.1, vI 0, vI 0]) (st' := []) (g' := q5.2) k203_148 rfl rfl ?_
                refine q_s (pc' := 152) (ls' := [vR 137, vI l1, vI (iw (l2 + 1)), vI (iw (l3 + 1)), vI q5.1, vI 0, vI 0]) (st' := []) (g' := q5.2) k203_149 rfl rfl ?_
                refine q_s (pc' := 18) (ls' := [vR 137, vI l1, vI (iw (l2 + 1)), vI (iw (l3 + 1)), vI q5.1, vI 0, vI 0]) (st' := []) (g' := q5.2) k203_152 rfl rfl ?_
                rfl
              · refine q_s (pc' := 127) (ls' := [vR 137, vI l1, vI l2, vI l3, vI q5.1, vI 0, vI 0]) (st' := [vI 0, vI l2]) (g' := q5.2) k203_126 rfl rfl ?_
                refine q_s (pc' := 147) (ls' := [vR 137, vI l1, vI l2, vI l3, vI q5.1, vI 0, vI 0]) (st' := [vI 0, vI l2]) (g' := q5.2) k203_127 rfl rfl ?_
                refine q_s (pc' := 148) (ls' := [vR 137, vI l1, vI l2, vI l3, vI q5.1, vI 0, vI 0]) (st' := [vI (iw (l2 + 0))]) (g' := q5.2) k203_147 rfl rfl ?_
                refine q_s (pc' := 149) (ls' := [vR 137, vI l1, vI (iw (l2 + 0)), vI l3, vI q5.1, vI 0, vI 0]) (st' := []) (g' := q5.2) k203_148 rfl rfl ?_
                refine q_s (pc' := 152) (ls' := [vR 137, vI l1, vI (iw (l2 + 0)), vI (iw (l3 + 1)), vI q5.1, vI 0, vI 0]) (st' := []) (g' := q5.2) k203_149 rfl rfl ?_
                refine q_s (pc' := 18) (ls' := [vR 137, vI l1, vI (iw (l2 + 0)), vI (iw (l3 + 1)), vI q5.1, vI 0, vI 0]) (st' := []) (g' := q5.2) k203_152 rfl rfl ?_
                rfl
          · refine q_s (pc' := 105) (ls' := [vR 137, vI l1, vI l2, vI l3, vI q5.1, vI 0, vI 0]) (st' := [vI 0, vI l2]) (g' := q5.2) k203_103 rfl rfl ?_
            refine q_s (pc' := 112) (ls' := [vR 137, vI l1, vI l2, vI l3, vI q5.1, vI 0, vI 0]) (st' := [vI l2]) (g' := q5.2) k203_105 rfl rfl ?_
            refine q_s (pc' := 113) (ls' := [vR 137, vI l1, vI l2, vI l3, vI q5.1, vI 0, vI 0]) (st' := [vI 0, vI l2]) (g' := q5.2) k203_112 rfl rfl ?_
            refine q_s (pc' := 147) (ls' := [vR 137, vI l1, vI l2, vI l3, vI q5.1, vI 0, vI 0]) (st' := [vI 0, vI l2]) (g' := q5.2) k203_113 rfl rfl ?_
            refine q_s (pc' := 148) (ls' := [vR 137, vI l1, vI l2, vI l3, vI q5.1, vI 0, vI 0]) (st' := [vI (iw (l2 + 0))]) (g' := q5.2) k203_147 rfl rfl ?_
            refine q_s (pc' := 149) (ls' := [vR 137, vI l1, vI (iw (l2 + 0)), vI l3, vI q5.1, vI 0, vI 0]) (st' := []) (g' := q5.2) k203_148 rfl rfl ?_
            refine q_s (pc' := 152) (ls' := [vR 137, vI l1, vI (iw (l2 + 0)), vI (iw (l3 + 1)), vI q5.1, vI 0, vI 0]) (st' := []) (g' := q5.2) k203_149 rfl rfl ?_
            refine q_s (pc' := 18) (ls' := [vR 137, vI l1, vI (iw (l2 + 0)), vI (iw (l3 + 1)), vI q5.1, vI 0, vI 0]) (st' := []) (g' := q5.2) k203_152 rfl rfl ?_
            rfl
        · refine q_s (pc' := 88) (ls' := [vR 137, vI l1, vI l2, vI l3, vI q5.1, vI 0, vI 0]) (st' := [vI 0, vI l2]) (g' := q5.2) k203_86 rfl rfl ?_
          refine q_s (pc' := 89) (ls' := [vR 137, vI l1, vI l2, vI l3, vI q5.1, vI 0, vI 0]) (st' := [vR 137, vI 0, vI l2]) (g' := q5.2) k203_88 rfl rfl ?_
          refine q_getF (r := 143) (pc' := 92) k203_89 rfl rfl rfl rfl ?_
          refine q_s (pc' := 93) (ls' := [vR 137, vI l1, vI l2, vI l3, vI q5.1, vI 0, vI 0]) (st' := [vI l3, vR 143, vI 0, vI l2]) (g' := q5.2) k203_92 rfl rfl ?_
          refine q_iald (n := 16) (pc' := 94) rfl k203_93 rfl rfl (fun h13 => ?_)
          refine q_s (pc' := 95) (ls' := [vR 137, vI l1, vI l2, vI l3, vI q5.1, vI 0, vI 0]) (st' := [vI (iw (0 * (q5.2 143 l3))), vI l2]) (g' := q5.2) k203_94 rfl rfl ?_
          refine q_s (pc' := 147) (ls' := [vR 137, vI l1, vI l2, vI l3, vI q5.1, vI 0, vI 0]) (st' := [vI (iw (0 * (q5.2 143 l3))), vI l2]) (g' := q5.2) k203_95 rfl rfl ?_
          refine q_s (pc' := 148) (ls' := [vR 137, vI l1, vI l2, vI l3, vI q5.1, vI 0, vI 0]) (st' := [vI (iw (l2 + (iw (0 * (q5.2 143 l3)))))]) (g' := q5.2) k203_147 rfl rfl ?_
          refine q_s (pc' := 149) (ls' := [vR 137, vI l1, vI (iw (l2 + (iw (0 * (q5.2 143 l3))))), vI l3, vI q5.1, vI 0, vI 0]) (st' := []) (g' := q5.2) k203_148 rfl rfl ?_
          refine q_s (pc' := 152) (ls' := [vR 137, vI l1, vI (iw (l2 + (iw (0 * (q5.2 143 l3))))), vI (iw (l3 + 1)), vI q5.1, vI 0, vI 0]) (st' := []) (g' := q5.2) k203_149 rfl rfl ?_
          refine q_s (pc' := 18) (ls' := [vR 137, vI l1, vI (iw (l2 + (iw (0 * (q5.2 143 l3))))), vI (iw (l3 + 1)), vI q5.1, vI 0, vI 0]) (st' := []) (g' := q5.2) k203_152 rfl rfl ?_
          rfl
      · refine q_s (pc' := 59) (ls' := [vR 137, vI l1, vI l2, vI l3, vI q5.1, vI 0, w6]) (st' := [vR 137]) (g' := q5.2) k203_58 rfl rfl ?_
        refine q_getI (w := 10) (pc' := 62) k203_59 rfl rfl rfl rfl ?_
        refine q_if (P := q5.2 137 10 ≤ 0) (t := 78) (pc' := 65) k203_62 Iff.rfl rfl rfl (fun h14 => ?_) (fun h14 => ?_)
        · refine q_s (pc' := 79) (ls' := [vR 137, vI l1, vI l2, vI l3, vI q5.1, vI 0, w6]) (st' := [vI 0]) (g' := q5.2) k203_78 rfl rfl ?_
          refine q_s (pc' := 81) (ls' := [vR 137, vI l1, vI l2, vI l3, vI q5.1, vI 0, vI 0]) (st' := []) (g' := q5.2) k203_79 rfl rfl ?_
          refine q_s (pc' := 82) (ls' := [vR 137, vI l1, vI l2, vI l3, vI q5.1, vI 0, vI 0]) (st' := [vI l2]) (g' := q5.2) k203_81 rfl rfl ?_
          refine q_s (pc' := 83) (ls' := [vR 137, vI l1, vI l2, vI l3, vI q5.1, vI 0, vI 0]) (st' := [vI l1, vI l2]) (g' := q5.2) k203_82 rfl rfl ?_
          refine q_if (P := l1 ≠ 0) (t := 98) (pc' := 86) k203_83 Iff.rfl rfl rfl (fun h15 => ?_) (fun h15 => ?_)
          · refine q_s (pc' := 99) (ls' := [vR 137, vI l1, vI l2, vI l3, vI q5.1, vI 0, vI 0]) (st' := [vI l1, vI l2]) (g' := q5.2) k203_98 rfl rfl ?_
            refine q_s (pc' := 100) (ls' := [vR 137, vI l1, vI l2, vI l3, vI q5.1, vI 0, vI 0]) (st' := [vI 1, vI l1, vI l2]) (g' := q5.2) k203_99 rfl rfl ?_
            refine q_ic (P := l1 ≠ 1) (t := 116) (pc' := 103) k203_100 Iff.rfl rfl rfl (fun h16 => ?_) (fun h16 => ?_)
            · refine q_s (pc' := 117) (ls' := [vR 137, vI l1, vI l2, vI l3, vI q5.1, vI 0, vI 0]) (st' := [vI l1, vI l2]) (g' := q5.2) k203_116 rfl rfl ?_
              refine q_s (pc' := 118) (ls' := [vR 137, vI l1, vI l2, vI l3, vI q5.1, vI 0, vI 0]) (st' := [vI 2, vI l1, vI l2]) (g' := q5.2) k203_117 rfl rfl ?_
              refine q_ic (P := l1 ≠ 2) (t := 134) (pc' := 121) k203_118 Iff.rfl rfl rfl (fun h17 => ?_) (fun h17 => ?_)
              · refine q_s (pc' := 136) (ls' := [vR 137, vI l1, vI l2, vI l3, vI q5.1, vI 0, vI 0]) (st' := [vI q5.1, vI l2]) (g' := q5.2) k203_134 rfl rfl ?_
                refine q_if (P := q5.1 = 0) (t := 146) (pc' := 139) k203_136 Iff.rfl rfl rfl (fun h18 => ?_) (fun h18 => ?_)
                · refine q_s (pc' := 147) (ls' := [vR 137, vI l1, vI l2, vI l3, vI q5.1, vI 0, vI 0]) (st' := [vI 0, vI l2]) (g' := q5.2) k203_146 rfl rfl ?_
                  refine q_s (pc' := 148) (ls' := [vR 137, vI l1, vI l2, vI l3, vI q5.1, vI 0, vI 0]) (st' := [vI (iw (l2 + 0))]) (g' := q5.2) k203_147 rfl rfl ?_
                  refine q_s (pc' := 149) (ls' := [vR 137, vI l1, vI (iw (l2 + 0)), vI l3, vI q5.1, vI 0, vI 0]) (st' := []) (g' := q5.2) k203_148 rfl rfl ?_
                  refine q_s (pc' := 152) (ls' := [vR 137, vI l1, vI (iw (l2 + 0)), vI (iw (l3 + 1)), vI q5.1, vI 0, vI 0]) (st' := []) (g' := q5.2) k203_149 rfl rfl ?_
                  refine q_s (pc' := 18) (ls' := [vR 137, vI l1, vI (iw (l2 + 0)), vI (iw (l3 + 1)), vI q5.1, vI 0, vI 0]) (st' := []) (g' := q5.2) k203_152 rfl rfl ?_
                  rfl
                · refine q_s (pc' := 140) (ls' := [vR 137, vI l1, vI l2, vI l3, vI q5.1, vI 0, vI 0]) (st' := [vR 137, vI l2]) (g' := q5.2) k203_139 rfl rfl ?_
                  refine q_getI (w := 10) (pc' := 143) k203_140 rfl rfl rfl rfl ?_
                  refine q_s (pc' := 147) (ls' := [vR 137, vI l1, vI l2, vI l3, vI q5.1, vI 0, vI 0]) (st' := [vI (q5.2 137 10), vI l2]) (g' := q5.2) k203_143 rfl rfl ?_
                  refine q_s (pc' := 148) (ls' := [vR 137, vI l1, vI l2, vI l3, vI q5.1, vI 0, vI 0]) (st' := [vI (iw (l2 + (q5.2 137 10)))]) (g' := q5.2) k203_147 rfl rfl ?_
                  refine q_s (pc' := 149) (ls' := [vR 137, vI l1, vI (iw (l2 + (q5.2 137 10))), vI l3, vI q5.1, vI 0, vI 0]) (st' := []) (g' := q5.2) k203_148 rfl rfl ?_
                  refine q_s (pc' := 152) (ls' := [vR 137, vI l1, vI (iw (l2 + (q5.2 137 10))), vI (iw (l3 + 1)), vI q5.1, vI 0, vI 0]) (st' := []) (g' := q5.2) k203_149 rfl rfl ?_
                  refine q_s (pc' := 18) (ls' := [vR 137, vI l1, vI (iw (l2 + (q5.2 137 10))), vI (iw (l3 + 1)), vI q5.1, vI 0, vI 0]) (st' := []) (g' := q5.2) k203_152 rfl rfl ?_
                  rfl
              · refine q_s (pc' := 123) (ls' := [vR 137, vI l1, vI l2, vI l3, vI q5.1, vI 0, vI 0]) (st' := [vI q5.1, vI l2]) (g' := q5.2) k203_121 rfl rfl ?_
                refine q_if (P := q5.1 = 0) (t := 130) (pc' := 126) k203_123 Iff.rfl rfl rfl (fun h19 => ?_) (fun h19 => ?_)
                · refine q_s (pc' := 131) (ls' := [vR 137, vI l1, vI l2, vI l3, vI q5.1, vI 0, vI 0]) (st' := [vI 1, vI l2]) (g' := q5.2) k203_130 rfl rfl ?_
                  refine q_s (pc' := 147) (ls' := [vR 137, vI l1, vI l2, vI l3, vI q5.1, vI 0, vI 0]) (st' := [vI 1, vI l2]) (g' := q5.2) k203_131 rfl rfl ?_
                  refine q_s (pc' := 148) (ls' := [vR 137, vI l1, vI l2, vI l3, vI q5.1, vI 0, vI 0]) (st' := [vI (iw (l2 + 1))]) (g' := q5.2) k203_147 rfl rfl ?_
                  refine q_s (pc' := 149) (ls' := [vR 137, vI l1, vI (iw (l2 + 1)), vI l3, vI q5.1, vI 0, vI 0]) (st' := []) (g' := q5.2) k203_148 rfl rfl ?_
                  refine q_s (pc' := 152) (ls' := [vR 137, vI l1, vI (iw (l2 + 1)), vI (iw (l3 + 1)), vI q5.1, vI 0, vI 0]) (st' := []) (g' := q5.2) k203_149 rfl rfl ?_
                  refine q_s (pc' := 18) (ls' := [vR 137, vI l1, vI (iw (l2 + 1)), vI (iw (l3 + 1)), vI q5.1, vI 0, vI 0]) (st' := []) (g' := q5.2) k203_152 rfl rfl ?_
                  rfl
                · refine q_s (pc' := 127) (ls' := [vR 137, vI l1, vI l2, vI l3, vI q5.1, vI 0, vI 0]) (st' := [vI 0, vI l2]) (g' := q5.2) k203_126 rfl rfl ?_
                  refine q_s (pc' := 147) (ls' := [vR 137, vI l1, vI l2, vI l3, vI q5.1, vI 0, vI 0]) (st' := [vI 0, vI l2]) (g' := q5.2) k203_127 rfl rfl ?_
                  refine q_s (pc' := 148) (ls' := [vR 137, vI l1, vI l2, vI l3, vI q5.1, vI 0, vI 0]) (st' := [vI (iw (l2 + 0))]) (g' := q5.2) k203_147 rfl rfl ?_
                  refine q_s (pc' := 149) (ls' := [vR 137, vI l1, vI (iw (l2 + 0)), vI l3, vI q5.1, vI 0, vI 0]) (st' := []) (g' := q5.2) k203_148 rfl rfl ?_
                  refine q_s (pc' := 152) (ls' := [vR 137, vI l1, vI (iw (l2 + 0)), vI (iw (l3 + 1)), vI q5.1, vI 0, vI 0]) (st' := []) (g' := q5.2) k203_149 rfl rfl ?_
                  refine q_s (pc' := 18) (ls' := [vR 137, vI l1, vI (iw (l2 + 0)), vI (iw (l3 + 1)), vI q5.1, vI 0, vI 0]) (st' := []) (g' := q5.2) k203_152 rfl rfl ?_
                  rfl
            · refine q_s (pc' := 105) (ls' := [vR 137, vI l1, vI l2, vI l3, vI q5.1, vI 0, vI 0]) (st' := [vI 0, vI l2]) (g' := q5.2) k203_103 rfl rfl ?_
              refine q_s (pc' := 112) (ls' := [vR 137, vI l1, vI l2, vI l3, vI q5.1, vI 0, vI 0]) (st' := [vI l2]) (g' := q5.2) k203_105 rfl rfl ?_
              refine q_s (pc' := 113) (ls' := [vR 137, vI l1, vI l2, vI l3, vI q5.1, vI 0, vI 0]) (st' := [vI 0, vI l2]) (g' := q5.2) k203_112 rfl rfl ?_
              refine q_s (pc' := 147) (ls' := [vR 137, vI l1, vI l2, vI l3, vI q5.1, vI 0, vI 0]) (st' := [vI 0, vI l2]) (g' := q5.2) k203_113 rfl rfl ?_
              refine q_s (pc' := 148) (ls' := [vR 137, vI l1, vI l2, vI l3, vI q5.1, vI 0, vI 0]) (st' := [vI (iw (l2 + 0))]) (g' := q5.2) k203_147 rfl rfl ?_
              refine q_s (pc' := 149) (ls' := [vR 137, vI l1, vI (iw (l2 + 0)), vI l3, vI q5.1, vI 0, vI 0]) (st' := []) (g' := q5.2) k203_148 rfl rfl ?_
              refine q_s (pc' := 152) (ls' := [vR 137, vI l1, vI (iw (l2 + 0)), vI (iw (l3 + 1)), vI q5.1, vI 0, vI 0]) (st' := []) (g' := q5.2) k203_149 rfl rfl ?_
              refine q_s (pc' := 18) (ls' := [vR 137, vI l1, vI (iw (l2 + 0)), vI (iw (l3 + 1)), vI q5.1, vI 0, vI 0]) (st' := []) (g' := q5.2) k203_152 rfl rfl ?_
              rfl
          · refine q_s (pc' := 88) (ls' := [vR 137, vI l1, vI l2, vI l3, vI q5.1, vI 0, vI 0]) (st' := [vI 0, vI l2]) (g' := q5.2) k203_86 rfl rfl ?_
            refine q_s (pc' := 89) (ls' := [vR 137, vI l1, vI l2, vI l3, vI q5.1, vI 0, vI 0]) (st' := [vR 137, vI 0, vI l2]) (g' := q5.2) k203_88 rfl rfl ?_
            refine q_getF (r := 143) (pc' := 92) k203_89 rfl rfl rfl rfl ?_
            refine q_s (pc' := 93) (ls' := [vR 137, vI l1, vI l2, vI l3, vI q5.1, vI 0, vI 0]) (st' := [vI l3, vR 143, vI 0, vI l2]) (g' := q5.2) k203_92 rfl rfl ?_
            refine q_iald (n := 16) (pc' := 94) rfl k203_93 rfl rfl (fun h20 => ?_)
            refine q_s (pc' := 95) (ls' := [vR 137, vI l1, vI l2, vI l3, vI q5.1, vI 0, vI 0]) (st' := [vI (iw (0 * (q5.2 143 l3))), vI l2]) (g' := q5.2) k203_94 rfl rfl ?_
            refine q_s (pc' := 147) (ls' := [vR 137, vI l1, vI l2, vI l3, vI q5.1, vI 0, vI 0]) (st' := [vI (iw (0 * (q5.2 143 l3))), vI l2]) (g' := q5.2) k203_95 rfl rfl ?_
            refine q_s (pc' := 148) (ls' := [vR 137, vI l1, vI l2, vI l3, vI q5.1, vI 0, vI 0]) (st' := [vI (iw (l2 + (iw (0 * (q5.2 143 l3)))))]) (g' := q5.2) k203_147 rfl rfl ?_
            refine q_s (pc' := 149) (ls' := [vR 137, vI l1, vI (iw (l2 + (iw (0 * (q5.2 143 l3))))), vI l3, vI q5.1, vI 0, vI 0]) (st' := []) (g' := q5.2) k203_148 rfl rfl ?_
            refine q_s (pc' := 152) (ls' := [vR 137, vI l1, vI (iw (l2 + (iw (0 * (q5.2 143 l3))))), vI (iw (l3 + 1)), vI q5.1, vI 0, vI 0]) (st' := []) (g' := q5.2) k203_149 rfl rfl ?_
            refine q_s (pc' := 18) (ls' := [vR 137, vI l1, vI (iw (l2 + (iw (0 * (q5.2 143 l3))))), vI (iw (l3 + 1)), vI q5.1, vI 0, vI 0]) (st' := []) (g' := q5.2) k203_152 rfl rfl ?_
            rfl
        · refine q_s (pc' := 66) (ls' := [vR 137, vI l1, vI l2, vI l3, vI q5.1, vI 0, w6]) (st' := [vR 137]) (g' := q5.2) k203_65 rfl rfl ?_
          refine q_s (pc' := 67) (ls' := [vR 137, vI l1, vI l2, vI l3, vI q5.1, vI 0, w6]) (st' := [vI l3, vR 137]) (g' := q5.2) k203_66 rfl rfl ?_
          refine q_callI (ls0 := [vR 137, vI l3]) (rest := []) (pc' := 70) rfl k203_67 rfl (hy4 rfl rfl rfl rfl) rfl rfl hq_164 rfl (fun q21 => ?_)
          refine q_s (pc' := 71) (ls' := [vR 137, vI l1, vI l2, vI l3, vI q5.1, vI 0, w6]) (st' := [vI 2, vI q21.1]) (g' := q21.2) k203_70 rfl rfl ?_
          refine q_ic (P := q21.1 ≠ 2) (t := 78) (pc' := 74) k203_71 Iff.rfl rfl rfl (fun h22 => ?_) (fun h22 => ?_)
          · refine q_s (pc' := 79) (ls' := [vR 137, vI l1, vI l2, vI l3, vI q5.1, vI 0, w6]) (st' := [vI 0]) (g' := q21.2) k203_78 rfl rfl ?_
            refine q_s (pc' := 81) (ls' := [vR 137, vI l1, vI l2, vI l3, vI q5.1, vI 0, vI 0]) (st' := []) (g' := q21.2) k203_79 rfl rfl ?_
            refine q_s (pc' := 82) (ls' := [vR 137, vI l1, vI l2, vI l3, vI q5.1, vI 0, vI 0]) (st' := [vI l2]) (g' := q21.2) k203_81 rfl rfl ?_
            refine q_s (pc' := 83) (ls' := [vR 137, vI l1, vI l2, vI l3, vI q5.1, vI 0, vI 0]) (st' := [vI l1, vI l2]) (g' := q21.2) k203_82 rfl rfl ?_
            refine q_if (P := l1 ≠ 0) (t := 98) (pc' := 86) k203_83 Iff.rfl rfl rfl (fun h23 => ?_) (fun h23 => ?_)
            · refine q_s (pc' := 99) (ls' := [vR 137, vI l1, vI l2, vI l3, vI q5.1, vI 0, vI 0]) (st' := [vI l1, vI l2]) (g' := q21.2) k203_98 rfl rfl ?_
              refine q_s (pc' := 100) (ls' := [vR 137, vI l1, vI l2, vI l3, vI q5.1, vI 0, vI 0]) (st' := [vI 1, vI l1, vI l2]) (g' := q21.2) k203_99 rfl rfl ?_
              refine q_ic (P := l1 ≠ 1) (t := 116) (pc' := 103) k203_100 Iff.rfl rfl rfl (fun h24 => ?_) (fun h24 => ?_)
              · refine q_s (pc' := 117) (ls' := [vR 137, vI l1, vI l2, vI l3, vI q5.1, vI 0, vI 0]) (st' := [vI l1, vI l2]) (g' := q21.2) k203_116 rfl rfl ?_
                refine q_s (pc' := 118) (ls' := [vR 137, vI l1, vI l2, vI l3, vI q5.1, vI 0, vI 0]) (st' := [vI 2, vI l1, vI l2]) (g' := q21.2) k203_117 rfl rfl ?_
                refine q_ic (P := l1 ≠ 2) (t := 134) (pc' := 121) k203_118 Iff.rfl rfl rfl (fun h25 => ?_) (fun h25 => ?_)
                · refine q_s (pc' := 136) (ls' := [vR 137, vI l1, vI l2, vI l3, vI q5.1, vI 0, vI 0]) (st' := [vI q5.1, vI l2]) (g' := q21.2) k203_134 rfl rfl ?_
                  refine q_if (P := q5.1 = 0) (t := 146) (pc' := 139) k203_136 Iff.rfl rfl rfl (fun h26 => ?_) (fun h26 => ?_)
                  · refine q_s (pc' := 147) (ls' := [vR 137, vI l1, vI l2, vI l3, vI q5.1, vI 0, vI 0]) (st' := [vI 0, vI l2]) (g' := q21.2) k203_146 rfl rfl ?_
                    refine q_s (pc' := 148) (ls' := [vR 137, vI l1, vI l2, vI l3, vI q5.1, vI 0, vI 0]) (st' := [vI (iw (l2 + 0))]) (g' := q21.2) k203_147 rfl rfl ?_
                    refine q_s (pc' := 149) (ls' := [vR 137, vI l1, vI (iw (l2 + 0)), vI l3, vI q5.1, vI 0, vI 0]) (st' := []) (g' := q21.2) k203_148 rfl rfl ?_
                    refine q_s (pc' := 152) (ls' := [vR 137, vI l1, vI (iw (l2 + 0)), vI (iw (l3 + 1)), vI q5.1, vI 0, vI 0]) (st' := []) (g' := q21.2) k203_149 rfl rfl ?_
                    refine q_s (pc' := 18) (ls' := [vR 137, vI l1, vI (iw (l2 + 0)), vI (iw (l3 + 1)), vI q5.1, vI 0, vI 0]) (st' := []) (g' := q21.2) k203_152 rfl rfl ?_
                    rfl
                  · refine q_s (pc' := 140) (ls' := [vR 137, vI l1, vI l2, vI l3, vI q5.1, vI 0, vI 0]) (st' := [vR 137, vI l2]) (g' := q21.2) k203_139 rfl rfl ?_
                    refine q_getI (w := 10) (pc' := 143) k203_140 rfl rfl rfl rfl ?_
                    refine q_s (pc' := 147) (ls' := [vR 137, vI l1, vI l2, vI l3, vI q5.1, vI 0, vI 0]) (st' := [vI (q21.2 137 10), vI l2]) (g' := q21.2) k203_143 rfl rfl ?_
                    refine q_s (pc' := 148) (ls' := [vR 137, vI l1, vI l2, vI l3, vI q5.1, vI 0, vI 0]) (st' := [vI (iw (l2 + (q21.2 137 10)))]) (g' := q21.2) k203_147 rfl rfl ?_
                    refine q_s (pc' := 149) (ls' := [vR 137, vI l1, vI (iw (l2 + (q21.2 137 10))), vI l3, vI q5.1, vI 0, vI 0]) (st' := []) (g' := q21.2) k203_148 rfl rfl ?_
                    refine q_s (pc' := 152) (ls' := [vR 137, vI l1, vI (iw (l2 + (q21.2 137 10))), vI (iw (l3 + 1)), vI q5.1, vI 0, vI 0]) (st' := []) (g' := q21.2) k203_149 rfl rfl ?_
                    refine q_s (pc' := 18) (ls' := [vR 137, vI l1, vI (iw (l2 + (q21.2 137 10))), vI (iw (l3 + 1)), vI q5.1, vI 0, vI 0]) (st' := []) (g' := q21.2) k203_152 rfl rfl ?_
                    rfl
                · refine q_s (pc' := 123) (ls' := [vR 137, vI l1, vI l2, vI l3, vI q5.1, vI 0, vI 0]) (st' := [vI q5.1, vI l2]) (g' := q21.2) k203_121 rfl rfl ?_
                  refine q_if (P := q5.1 = 0) (t := 130) (pc' := 126) k203_123 Iff.rfl rfl rfl (fun h27 => ?_) (fun h27 => ?_)
                  · refine q_s (pc' := 131) (ls' := [vR 137, vI l1, vI l2, vI l3, vI q5.1, vI 0, vI 0]) (st' := [vI 1, vI l2]) (g' := q21.2) k203_130 rfl rfl ?_
                    refine q_s (pc' := 147) (ls' := [vR 137, vI l1, vI l2, vI l3, vI q5.1, vI 0, vI 0]) (st' := [vI 1, vI l2]) (g' := q21.2) k203_131 rfl rfl ?_
                    refine q_s (pc' := 148) (ls' := [vR 137, vI l1, vI l2, vI l3, vI q5.1, vI 0, vI 0]) (st' := [vI (iw (l2 + 1))]) (g' := q21.2) k203_147 rfl rfl ?_
                    refine q_s (pc' := 149) (ls' := [vR 137, vI l1, vI (iw (l2 + 1)), vI l3, vI q5.1, vI 0, vI 0]) (st' := []) (g' := q21.2) k203_148 rfl rfl ?_
                    refine q_s (pc' := 152) (ls' := [vR 137, vI l1, vI (iw (l2 + 1)), vI (iw (l3 + 1)), vI q5.1, vI 0, vI 0]) (st' := []) (g' := q21.2) k203_149 rfl rfl ?_
                    refine q_s (pc' := 18) (ls' := [vR 137, vI l1, vI (iw (l2 + 1)), vI (iw (l3 + 1)), vI q5.1, vI 0, vI 0]) (st' := []) (g' := q21.2) k203_152 rfl rfl ?_
                    rfl
                  · refine q_s (pc' := 127) (ls' := [vR 137, vI l1, vI l2, vI l3, vI q5.1, vI 0, vI 0]) (st' := [vI 0, vI l2]) (g' := q21.2) k203_126 rfl rfl ?_
                    refine q_s (pc' := 147) (ls' := [vR 137, vI l1, vI l2, vI l3, vI q5.1, vI 0, vI 0]) (st' := [vI 0, vI l2]) (g' := q21.2) k203_127 rfl rfl ?_
                    refine q_s (pc' := 148) (ls' := [vR 137, vI l1, vI l2, vI l3, vI q5.1, vI 0, vI 0]) (st' := [vI (iw (l2 + 0))]) (g' := q21.2) k203_147 rfl rfl ?_
                    refine q_s (pc' := 149) (ls' := [vR 137, vI l1, vI (iw (l2 + 0)), vI l3, vI q5.1, vI 0, vI 0]) (st' := []) (g' := q21.2) k203_148 rfl rfl ?_
                    refine q_s (pc' := 152) (ls' := [vR 137, vI l1, vI (iw (l2 + 0)), vI (iw (l3 + 1)), vI q5.1, vI 0, vI 0]) (st' := []) (g' := q21.2) k203_149 rfl rfl ?_
                    refine q_s (pc' := 18) (ls' := [vR 137, vI l1, vI (iw (l2 + 0)), vI (iw (l3 + 1)), vI q5.1, vI 0, vI 0]) (st' := []) (g' := q21.2) k203_152 rfl rfl ?_
                    rfl
              · refine q_s (pc' := 105) (ls' := [vR 137, vI l1, vI l2, vI l3, vI q5.1, vI 0, vI 0]) (st' := [vI 0, vI l2]) (g' := q21.2) k203_103 rfl rfl ?_
                refine q_s (pc' := 112) (ls' := [vR 137, vI l1, vI l2, vI l3, vI q5.1, vI 0, vI 0]) (st' := [vI l2]) (g' := q21.2) k203_105 rfl rfl ?_
                refine q_s (pc' := 113) (ls' := [vR 137, vI l1, vI l2, vI l3, vI q5.1, vI 0, vI 0]) (st' := [vI 0, vI l2]) (g' := q21.2) k203_112 rfl rfl ?_
                refine q_s (pc' := 147) (ls' := [vR 137, vI l1, vI l2, vI l3, vI q5.1, vI 0, vI 0]) (st' := [vI 0, vI l2]) (g' := q21.2) k203_113 rfl rfl ?_
                refine q_s (pc' := 148) (ls' := [vR 137, vI l1, vI l2, vI l3, vI q5.1, vI 0, vI 0]) (st' := [vI (iw (l2 + 0))]) (g' := q21.2) k203_147 rfl rfl ?_
                refine q_s (pc' := 149) (ls' := [vR 137, vI l1, vI (iw (l2 + 0)), vI l3, vI q5.1, vI 0, vI 0]) (st' := []) (g' := q21.2) k203_148 rfl rfl ?_
                refine q_s (pc' := 152) (ls' := [vR 137, vI l1, vI (iw (l2 + 0)), vI (iw (l3 + 1)), vI q5.1, vI 0, vI 0]) (st' := []) (g' := q21.2) k203_149 rfl rfl ?_
                refine q_s (pc' := 18) (ls' := [vR 137, vI l1, vI (iw (l2 + 0)), vI (iw (l3 + 1)), vI q5.1, vI 0, vI 0]) (st' := []) (g' := q21.2) k203_152 rfl rfl ?_
                rfl
            · refine q_s (pc' := 88) (ls' := [vR 137, vI l1, vI l2, vI l3, vI q5.1, vI 0, vI 0]) (st' := [vI 0, vI l2]) (g' := q21.2) k203_86 rfl rfl ?_
              refine q_s (pc' := 89) (ls' := [vR 137, vI l1, vI l2, vI l3, vI q5.1, vI 0, vI 0]) (st' := [vR 137, vI 0, vI l2]) (g' := q21.2) k203_88 rfl rfl ?_
              refine q_getF (r := 143) (pc' := 92) k203_89 rfl rfl rfl rfl ?_
              refine q_s (pc' := 93) (ls' := [vR 137, vI l1, vI l2, vI l3, vI q5.1, vI 0, vI 0]) (st' := [vI l3, vR 143, vI 0, vI l2]) (g' := q21.2) k203_92 rfl rfl ?_
              refine q_iald (n := 16) (pc' := 94) rfl k203_93 rfl rfl (fun h28 => ?_)
              refine q_s (pc' := 95) (ls' := [vR 137, vI l1, vI l2, vI l3, vI q5.1, vI 0, vI 0]) (st' := [vI (iw (0 * (q21.2 143 l3))), vI l2]) (g' := q21.2) k203_94 rfl rfl ?_
              refine q_s (pc' := 147) (ls' := [vR 137, vI l1, vI l2, vI l3, vI q5.1, vI 0, vI 0]) (st' := [vI (iw (0 * (q21.2 143 l3))), vI l2]) (g' := q21.2) k203_95 rfl rfl ?_
              refine q_s (pc' := 148) (ls' := [vR 137, vI l1, vI l2, vI l3, vI q5.1, vI 0, vI 0]) (st' := [vI (iw (l2 + (iw (0 * (q21.2 143 l3)))))]) (g' := q21.2) k203_147 rfl rfl ?_
              refine q_s (pc' := 149) (ls' := [vR 137, vI l1, vI (iw (l2 + (iw (0 * (q21.2 143 l3))))), vI l3, vI q5.1, vI 0, vI 0]) (st' := []) (g' := q21.2) k203_148 rfl rfl ?_
              refine q_s (pc' := 152) (ls' := [vR 137, vI l1, vI (iw (l2 + (iw (0 * (q21.2 143 l3))))), vI (iw (l3 + 1)), vI q5.1, vI 0, vI 0]) (st' := []) (g' := q21.2) k203_149 rfl rfl ?_
              refine q_s (pc' := 18) (ls' := [vR 137, vI l1, vI (iw (l2 + (iw (0 * (q21.2 143 l3))))), vI (iw (l3 + 1)), vI q5.1, vI 0, vI 0]) (st' := []) (g' := q21.2) k203_152 rfl rfl ?_
              rfl
          · refine q_s (pc' := 75) (ls' := [vR 137, vI l1, vI l2, vI l3, vI q5.1, vI 0, w6]) (st' := [vI 1]) (g' := q21.2) k203_74 rfl rfl ?_
            refine q_s (pc' := 79) (ls' := [vR 137, vI l1, vI l2, vI l3, vI q5.1, vI 0, w6]) (st' := [vI 1]) (g' := q21.2) k203_75 rfl rfl ?_
            refine q_s (pc' := 81) (ls' := [vR 137, vI l1, vI l2, vI l3, vI q5.1, vI 0, vI 1]) (st' := []) (g' := q21.2) k203_79 rfl rfl ?_
            refine q_s (pc' := 82) (ls' := [vR 137, vI l1, vI l2, vI l3, vI q5.1, vI 0, vI 1]) (st' := [vI l2]) (g' := q21.2) k203_81 rfl rfl ?_
            refine q_s (pc' := 83) (ls' := [vR 137, vI l1, vI l2, vI l3, vI q5.1, vI 0, vI 1]) (st' := [vI l1, vI l2]) (g' := q21.2) k203_82 rfl rfl ?_
            refine q_if (P := l1 ≠ 0) (t := 98) (pc' := 86) k203_83 Iff.rfl rfl rfl (fun h29 => ?_) (fun h29 => ?_)
            · refine q_s (pc' := 99) (ls' := [vR 137, vI l1, vI l2, vI l3, vI q5.1, vI 0, vI 1]) (st' := [vI l1, vI l2]) (g' := q21.2) k203_98 rfl rfl ?_
              refine q_s (pc' := 100) (ls' := [vR 137, vI l1, vI l2, vI l3, vI q5.1, vI 0, vI 1]) (st' := [vI 1, vI l1, vI l2]) (g' := q21.2) k203_99 rfl rfl ?_
              refine q_ic (P := l1 ≠ 1) (t := 116) (pc' := 103) k203_100 Iff.rfl rfl rfl (fun h30 => ?_) (fun h30 => ?_)
              · refine q_s (pc' := 117) (ls' := [vR 137, vI l1, vI l2, vI l3, vI q5.1, vI 0, vI 1]) (st' := [vI l1, vI l2]) (g' := q21.2) k203_116 rfl rfl ?_
                refine q_s (pc' := 118) (ls' := [vR 137, vI l1, vI l2, vI l3, vI q5.1, vI 0, vI 1]) (st' := [vI 2, vI l1, vI l2]) (g' := q21.2) k203_117 rfl rfl ?_
                refine q_ic (P := l1 ≠ 2) (t := 134) (pc' := 121) k203_118 Iff.rfl rfl rfl (fun h31 => ?_) (fun h31 => ?_)
                · refine q_s (pc' := 136) (ls' := [vR 137, vI l1, vI l2, vI l3, vI q5.1, vI 0, vI 1]) (st' := [vI q5.1, vI l2]) (g' := q21.2) k203_134 rfl rfl ?_
                  refine q_if (P := q5.1 = 0) (t := 146) (pc' := 139) k203_136 Iff.rfl rfl rfl (fun h32 => ?_) (fun h32 => ?_)
                  · refine q_s (pc' := 147) (ls' := [vR 137, vI l1, vI l2, vI l3, vI q5.1, vI 0, vI 1]) (st' := [vI 0, vI l2]) (g' := q21.2) k203_146 rfl rfl ?_
                    refine q_s (pc' := 148) (ls' := [vR 137, vI l1, vI l2, vI l3, vI q5.1, vI 0, vI 1]) (st' := [vI (iw (l2 + 0))]) (g' := q21.2) k203_147 rfl rfl ?_
                    refine q_s (pc' := 149) (ls' := [vR 137, vI l1, vI (iw (l2 + 0)), vI l3, vI q5.1, vI 0, vI 1]) (st' := []) (g' := q21.2) k203_148 rfl rfl ?_
                    refine q_s (pc' := 152) (ls' := [vR 137, vI l1, vI (iw (l2 + 0)), vI (iw (l3 + 1)), vI q5.1, vI 0, vI 1]) (st' := []) (g' := q21.2) k203_149 rfl rfl ?_
                    refine q_s (pc' := 18) (ls' := [vR 137, vI l1, vI (iw (l2 + 0)), vI (iw (l3 + 1)), vI q5.1, vI 0, vI 1]) (st' := []) (g' := q21.2) k203_152 rfl rfl ?_
                    rfl
                  · refine q_s (pc' := 140) (ls' := [vR 137, vI l1, vI l2, vI l3, vI q5.1, vI 0, vI 1]) (st' := [vR 137, vI l2]) (g' := q21.2) k203_139 rfl rfl ?_
                    refine q_getI (w := 10) (pc' := 143) k203_140 rfl rfl rfl rfl ?_
                    refine q_s (pc' := 147) (ls' := [vR 137, vI l1, vI l2, vI l3, vI q5.1, vI 0, vI 1]) (st' := [vI (q21.2 137 10), vI l2]) (g' := q21.2) k203_143 rfl rfl ?_
                    refine q_s (pc' := 148) (ls' := [vR 137, vI l1, vI l2, vI l3, vI q5.1, vI 0, vI 1]) (st' := [vI (iw (l2 + (q21.2 137 10)))]) (g' := q21.2) k203_147 rfl rfl ?_
                    refine q_s (pc' := 149) (ls' := [vR 137, vI l1, vI (iw (l2 + (q21.2 137 10))), vI l3, vI q5.1, vI 0, vI 1]) (st' := []) (g' := q21.2) k203_148 rfl rfl ?_
                    refine q_s (pc' := 152) (ls' := [vR 137, vI l1, vI (iw (l2 + (q21.2 137 10))), vI (iw (l3 + 1)), vI q5.1, vI 0, vI 1]) (st' := []) (g' := q21.2) k203_149 rfl rfl ?_
                    refine q_s (pc' := 18) (ls' := [vR 137, vI l1, vI (iw (l2 + (q21.2 137 10))), vI (iw (l3 + 1)), vI q5.1, vI 0, vI 1]) (st' := []) (g' := q21.2) k203_152 rfl rfl ?_
                    rfl
                · refine q_s (pc' := 123) (ls' := [vR 137, vI l1, vI l2, vI l3, vI q5.1, vI 0, vI 1]) (st' := [vI q5.1, vI l2]) (g' := q21.2) k203_121 rfl rfl ?_
                  refine q_if (P := q5.1 = 0) (t := 130) (pc' := 126) k203_123 Iff.rfl rfl rfl (fun h33 => ?_) (fun h33 => ?_)
                  · refine q_s (pc' := 131) (ls' := [vR 137, vI l1, vI l2, vI l3, vI q5.1, vI 0, vI 1]) (st' := [vI 1, vI l2]) (g' := q21.2) k203_130 rfl rfl ?_
                    refine q_s (pc' := 147) (ls' := [vR 137, vI l1, vI l2, vI l3, vI q5.1, vI 0, vI 1]) (st' := [vI 1, vI l2]) (g' := q21.2) k203_131 rfl rfl ?_
                    refine q_s (pc' := 148) (ls' := [vR 137, vI l1, vI l2, vI l3, vI q5.1, vI 0, vI 1]) (st' := [vI (iw (l2 + 1))]) (g' := q21.2) k203_147 rfl rfl ?_
                    refine q_s (pc' := 149) (ls' := [vR 137, vI l1, vI (iw (l2 + 1)), vI l3, vI q5.1, vI 0, vI 1]) (st' := []) (g' := q21.2) k203_148 rfl rfl ?_
                    refine q_s (pc' := 152) (ls' := [vR 137, vI l1, vI (iw (l2 + 1)), vI (iw (l3 + 1)), vI q5.1, vI 0, vI 1]) (st' := []) (g' := q21.2) k203_149 rfl rfl ?_
                    refine q_s (pc' := 18) (ls' := [vR 137, vI l1, vI (iw (l2 + 1)), vI (iw (l3 + 1)), vI q5.1, vI 0, vI 1]) (st' := []) (g' := q21.2) k203_152 rfl rfl ?_
                    rfl
                  · refine q_s (pc' := 127) (ls' := [vR 137, vI l1, vI l2, vI l3, vI q5.1, vI 0, vI 1]) (st' := [vI 0, vI l2]) (g' := q21.2) k203_126 rfl rfl ?_
                    refine q_s (pc' := 147) (ls' := [vR 137, vI l1, vI l2, vI l3, vI q5.1, vI 0, vI 1]) (st' := [vI 0, vI l2]) (g' := q21.2) k203_127 rfl rfl ?_
                    refine q_s (pc' := 148) (ls' := [vR 137, vI l1, vI l2, vI l3, vI q5.1, vI 0, vI 1]) (st' := [vI (iw (l2 + 0))]) (g' := q21.2) k203_147 rfl rfl ?_
                    refine q_s (pc' := 149) (ls' := [vR 137, vI l1, vI (iw (l2 + 0)), vI l3, vI q5.1, vI 0, vI 1]) (st' := []) (g' := q21.2) k203_148 rfl rfl ?_
                    refine q_s (pc' := 152) (ls' := [vR 137, vI l1, vI (iw (l2 + 0)), vI (iw (l3 + 1)), vI q5.1, vI 0, vI 1]) (st' := []) (g' := q21.2) k203_149 rfl rfl ?_
                    refine q_s (pc' := 18) (ls' := [vR 137, vI l1, vI (iw (l2 + 0)), vI (iw (l3 + 1)), vI q5.1, vI 0, vI 1]) (st' := []) (g' := q21.2) k203_152 rfl rfl ?_
                    rfl
              · refine q_s (pc' := 105) (ls' := [vR 137, vI l1, vI l2, vI l3, vI q5.1, vI 0, vI 1]) (st' := [vI 1, vI l2]) (g' := q21.2) k203_103 rfl rfl ?_
                refine q_s (pc' := 108) (ls' := [vR 137, vI l1, vI l2, vI l3, vI q5.1, vI 0, vI 1]) (st' := [vI l2]) (g' := q21.2) k203_105 rfl rfl ?_
                refine q_s (pc' := 109) (ls' := [vR 137, vI l1, vI l2, vI l3, vI q5.1, vI 0, vI 1]) (st' := [vI 1, vI l2]) (g' := q21.2) k203_108 rfl rfl ?_
                refine q_s (pc' := 147) (ls' := [vR 137, vI l1, vI l2, vI l3, vI q5.1, vI 0, vI 1]) (st' := [vI 1, vI l2]) (g' := q21.2) k203_109 rfl rfl ?_
                refine q_s (pc' := 148) (ls' := [vR 137, vI l1, vI l2, vI l3, vI q5.1, vI 0, vI 1]) (st' := [vI (iw (l2 + 1))]) (g' := q21.2) k203_147 rfl rfl ?_
                refine q_s (pc' := 149) (ls' := [vR 137, vI l1, vI (iw (l2 + 1)), vI l3, vI q5.1, vI 0, vI 1]) (st' := []) (g' := q21.2) k203_148 rfl rfl ?_
                refine q_s (pc' := 152) (ls' := [vR 137, vI l1, vI (iw (l2 + 1)), vI (iw (l3 + 1)), vI q5.1, vI 0, vI 1]) (st' := []) (g' := q21.2) k203_149 rfl rfl ?_
                refine q_s (pc' := 18) (ls' := [vR 137, vI l1, vI (iw (l2 + 1)), vI (iw (l3 + 1)), vI q5.1, vI 0, vI 1]) (st' := []) (g' := q21.2) k203_152 rfl rfl ?_
                rfl
            · refine q_s (pc' := 88) (ls' := [vR 137, vI l1, vI l2, vI l3, vI q5.1, vI 0, vI 1]) (st' := [vI 0, vI l2]) (g' := q21.2) k203_86 rfl rfl ?_
              refine q_s (pc' := 89) (ls' := [vR 137, vI l1, vI l2, vI l3, vI q5.1, vI 0, vI 1]) (st' := [vR 137, vI 0, vI l2]) (g' := q21.2) k203_88 rfl rfl ?_
              refine q_getF (r := 143) (pc' := 92) k203_89 rfl rfl rfl rfl ?_
              refine q_s (pc' := 93) (ls' := [vR 137, vI l1, vI l2, vI l3, vI q5.1, vI 0, vI 1]) (st' := [vI l3, vR 143, vI 0, vI l2]) (g' := q21.2) k203_92 rfl rfl ?_
              refine q_iald (n := 16) (pc' := 94) rfl k203_93 rfl rfl (fun h34 => ?_)
              refine q_s (pc' := 95) (ls' := [vR 137, vI l1, vI l2, vI l3, vI q5.1, vI 0, vI 1]) (st' := [vI (iw (0 * (q21.2 143 l3))), vI l2]) (g' := q21.2) k203_94 rfl rfl ?_
              refine q_s (pc' := 147) (ls' := [vR 137, vI l1, vI l2, vI l3, vI q5.1, vI 0, vI 1]) (st' := [vI (iw (0 * (q21.2 143 l3))), vI l2]) (g' := q21.2) k203_95 rfl rfl ?_
              refine q_s (pc' := 148) (ls' := [vR 137, vI l1, vI l2, vI l3, vI q5.1, vI 0, vI 1]) (st' := [vI (iw (l2 + (iw (0 * (q21.2 143 l3)))))]) (g' := q21.2) k203_147 rfl rfl ?_
              refine q_s (pc' := 149) (ls' := [vR 137, vI l1, vI (iw (l2 + (iw (0 * (q21.2 143 l3))))), vI l3, vI q5.1, vI 0, vI 1]) (st' := []) (g' := q21.2) k203_148 rfl rfl ?_
              refine q_s (pc' := 152) (ls' := [vR 137, vI l1, vI (iw (l2 + (iw (0 * (q21.2 143 l3))))), vI (iw (l3 + 1)), vI q5.1, vI 0, vI 1]) (st' := []) (g' := q21.2) k203_149 rfl rfl ?_
              refine q_s (pc' := 18) (ls' := [vR 137, vI l1, vI (iw (l2 + (iw (0 * (q21.2 143 l3))))), vI (iw (l3 + 1)), vI q5.1, vI 0, vI 1]) (st' := []) (g' := q21.2) k203_152 rfl rfl ?_
              rfl
    · refine q_s (pc' := 39) (ls' := [vR 137, vI l1, vI l2, vI l3, vI q5.1, w5, w6]) (st' := [vR 137]) (g' := q5.2) k203_38 rfl rfl ?_
      refine q_s (pc' := 40) (ls' := [vR 137, vI l1, vI l2, vI l3, vI q5.1, w5, w6]) (st' := [vI l3, vR 137]) (g' := q5.2) k203_39 rfl rfl ?_
      refine q_s (pc' := 41) (ls' := [vR 137, vI l1, vI l2, vI l3, vI q5.1, w5, w6]) (st' := [vR 137, vI l3, vR 137]) (g' := q5.2) k203_40 rfl rfl ?_
      refine q_getI (w := 3) (pc' := 44) k203_41 rfl rfl rfl rfl ?_
      refine q_callI (ls0 := [vR 137, vI l3, vI (q5.2 137 3), vU, vU, vU]) (rest := []) (pc' := 47) rfl k203_44 rfl (hy4 rfl rfl rfl rfl) rfl rfl hq_184 rfl (fun q35 => ?_)
      refine q_s (pc' := 51) (ls' := [vR 137, vI l1, vI l2, vI l3, vI q5.1, w5, w6]) (st' := [vI q35.1]) (g' := q35.2) k203_47 rfl rfl ?_
      refine q_s (pc' := 53) (ls' := [vR 137, vI l1, vI l2, vI l3, vI q5.1, vI q35.1, w6]) (st' := []) (g' := q35.2) k203_51 rfl rfl ?_
      refine q_s (pc' := 55) (ls' := [vR 137, vI l1, vI l2, vI l3, vI q5.1, vI q35.1, w6]) (st' := [vI q5.1]) (g' := q35.2) k203_53 rfl rfl ?_
      refine q_if (P := q5.1 = 0) (t := 78) (pc' := 58) k203_55 Iff.rfl rfl rfl (fun h36 => ?_) (fun h36 => ?_)
      · refine q_s (pc' := 79) (ls' := [vR 137, vI l1, vI l2, vI l3, vI q5.1, vI q35.1, w6]) (st' := [vI 0]) (g' := q35.2) k203_78 rfl rfl ?_
        refine q_s (pc' := 81) (ls' := [vR 137, vI l1, vI l2, vI l3, vI q5.1, vI q35.1, vI 0]) (st' := []) (g' := q35.2) k203_79 rfl rfl ?_
        refine q_s (pc' := 82) (ls' := [vR 137, vI l1, vI l2, vI l3, vI q5.1, vI q35.1, vI 0]) (st' := [vI l2]) (g' := q35.2) k203_81 rfl rfl ?_
        refine q_s (pc' := 83) (ls' := [vR 137, vI l1, vI l2, vI l3, vI q5.1, vI q35.1, vI 0]) (st' := [vI l1, vI l2]) (g' := q35.2) k203_82 rfl rfl ?_
        refine q_if (P := l1 ≠ 0) (t := 98) (pc' := 86) k203_83 Iff.rfl rfl rfl (fun h37 => ?_) (fun h37 => ?_)
        · refine q_s (pc' := 99) (ls' := [vR 137, vI l1, vI l2, vI l3, vI q5.1, vI q35.1, vI 0]) (st' := [vI l1, vI l2]) (g' := q35.2) k203_98 rfl rfl ?_
          refine q_s (pc' := 100) (ls' := [vR 137, vI l1, vI l2, vI l3, vI q5.1, vI q35.1, vI 0]) (st' := [vI 1, vI l1, vI l2]) (g' := q35.2) k203_99 rfl rfl ?_
          refine q_ic (P := l1 ≠ 1) (t := 116) (pc' := 103) k203_100 Iff.rfl rfl rfl (fun h38 => ?_) (fun h38 => ?_)
          · refine q_s (pc' := 117) (ls' := [vR 137, vI l1, vI l2, vI l3, vI q5.1, vI q35.1, vI 0]) (st' := [vI l1, vI l2]) (g' := q35.2) k203_116 rfl rfl ?_
            refine q_s (pc' := 118) (ls' := [vR 137, vI l1, vI l2, vI l3, vI q5.1, vI q35.1, vI 0]) (st' := [vI 2, vI l1, vI l2]) (g' := q35.2) k203_117 rfl rfl ?_
            refine q_ic (P := l1 ≠ 2) (t := 134) (pc' := 121) k203_118 Iff.rfl rfl rfl (fun h39 => ?_) (fun h39 => ?_)
            · refine q_s (pc' := 136) (ls' := [vR 137, vI l1, vI l2, vI l3, vI q5.1, vI q35.1, vI 0]) (st' := [vI q5.1, vI l2]) (g' := q35.2) k203_134 rfl rfl ?_
              refine q_if (P := q5.1 = 0) (t := 146) (pc' := 139) k203_136 Iff.rfl rfl rfl (fun h40 => ?_) (fun h40 => ?_)
              · refine q_s (pc' := 147) (ls' := [vR 137, vI l1, vI l2, vI l3, vI q5.1, vI q35.1, vI 0]) (st' := [vI 0, vI l2]) (g' := q35.2) k203_146 rfl rfl ?_
                refine q_s (pc' := 148) (ls' := [vR 137, vI l1, vI l2, vI l3, vI q5.1, vI q35.1, vI 0]) (st' := [vI (iw (l2 + 0))]) (g' := q35.2) k203_147 rfl rfl ?_
                refine q_s (pc' := 149) (ls' := [vR 137, vI l1, vI (iw (l2 + 0)), vI l3, vI q5.1, vI q35.1, vI 0]) (st' := []) (g' := q35.2) k203_148 rfl rfl ?_
                refine q_s (pc' := 152) (ls' := [vR 137, vI l1, vI (iw (l2 + 0)), vI (iw (l3 + 1)), vI q5.1, vI q35.1, vI 0]) (st' := []) (g' := q35.2) k203_149 rfl rfl ?_
                refine q_s (pc' := 18) (ls' := [vR 137, vI l1, vI (iw (l2 + 0)), vI (iw (l3 + 1)), vI q5.1, vI q35.1, vI 0]) (st' := []) (g' := q35.2) k203_152 rfl rfl ?_
                rfl
              · refine q_s (pc' := 140) (ls' := [vR 137, vI l1, vI l2, vI l3, vI q5.1, vI q35.1, vI 0]) (st' := [vR 137, vI l2]) (g' := q35.2) k203_139 rfl rfl ?_
                refine q_getI (w := 10) (pc' := 143) k203_140 rfl rfl rfl rfl ?_
                refine q_s (pc' := 147) (ls' := [vR 137, vI l1, vI l2, vI l3, vI q5.1, vI q35.1, vI 0]) (st' := [vI (q35.2 137 10), vI l2]) (g' := q35.2) k203_143 rfl rfl ?_
                refine q_s (pc' := 148) (ls' := [vR 137, vI l1, vI l2, vI l3, vI q5.1, vI q35.1, vI 0]) (st' := [vI (iw (l2 + (q35.2 137 10)))]) (g' := q35.2) k203_147 rfl rfl ?_
                refine q_s (pc' := 149) (ls' := [vR 137, vI l1, vI (iw (l2 + (q35.2 137 10))), vI l3, vI q5.1, vI q35.1, vI 0]) (st' := []) (g' := q35.2) k203_148 rfl rfl ?_
                refine q_s (pc' := 152) (ls' := [vR 137, vI l1, vI (iw (l2 + (q35.2 137 10))), vI (iw (l3 + 1)), vI q5.1, vI q35.1, vI 0]) (st' := []) (g' := q35.2) k203_149 rfl rfl ?_
                refine q_s (pc' := 18) (ls' := [vR 137, vI l1, vI (iw (l2 + (q35.2 137 10))), vI (iw (l3 + 1)), vI q5.1, vI q35.1, vI 0]) (st' := []) (g' := q35.2) k203_152 rfl rfl ?_
                rfl
            · refine q_s (pc' := 123) (ls' := [vR 137, vI l1, vI l2, vI l3, vI q5.1, vI q35.1, vI 0]) (st' := [vI q5.1, vI l2]) (g' := q35.2) k203_121 rfl rfl ?_
              refine q_if (P := q5.1 = 0) (t := 130) (pc' := 126) k203_123 Iff.rfl rfl rfl (fun h41 => ?_) (fun h41 => ?_)
              · refine q_s (pc' := 131) (ls' := [vR 137, vI l1, vI l2, vI l3, vI q5.1, vI q35.1, vI 0]) (st' := [vI 1, vI l2]) (g' := q35.2) k203_130 rfl rfl ?_
                refine q_s (pc' := 147) (ls' := [vR 137, vI l1, vI l2, vI l3, vI q5.1, vI q35.1, vI 0]) (st' := [vI 1, vI l2]) (g' := q35.2) k203_131 rfl rfl ?_
                refine q_s (pc' := 148) (ls' := [vR 137, vI l1, vI l2, vI l3, vI q5.1, vI q35.1, vI 0]) (st' := [vI (iw (l2 + 1))]) (g' := q35.2) k203_147 rfl rfl ?_
                refine q_s (pc' := 149) (ls' := [vR 137, vI l1, vI (iw (l2 + 1)), vI l3, vI q5.1, vI q35.1, vI 0]) (st' := []) (g' := q35.2) k203_148 rfl rfl ?_
                refine q_s (pc' := 152) (ls' := [vR 137, vI l1, vI (iw (l2 + 1)), vI (iw (l3 + 1)), vI q5.1, vI q35.1, vI 0]) (st' := []) (g' := q35.2) k203_149 rfl rfl ?_
                refine q_s (pc' := 18) (ls' := [vR 137, vI l1, vI (iw (l2 + 1)), vI (iw (l3 + 1)), vI q5.1, vI q35.1, vI 0]) (st' := []) (g' := q35.2) k203_152 rfl rfl ?_
                rfl
              · refine q_s (pc' := 127) (ls' := [vR 137, vI l1, vI l2, vI l3, vI q5.1, vI q35.1, vI 0]) (st' := [vI 0, vI l2]) (g' := q35.2) k203_126 rfl rfl ?_
                refine q_s (pc' := 147) (ls' := [vR 137, vI l1, vI l2, vI l3, vI q5.1, vI q35.1, vI 0]) (st' := [vI 0, vI l2]) (g' := q35.2) k203_127 rfl rfl ?_
                refine q_s (pc' := 148) (ls' := [vR 137, vI l1, vI l2, vI l3, vI q5.1, vI q35.1, vI 0]) (st' := [vI (iw (l2 + 0))]) (g' := q35.2) k203_147 rfl rfl ?_
                refine q_s (pc' := 149) (ls' := [vR 137, vI l1, vI (iw (l2 + 0)), vI l3, vI q5.1, vI q35.1, vI 0]) (st' := []) (g' := q35.2) k203_148 rfl rfl ?_
                refine q_s (pc' := 152) (ls' := [vR 137, vI l1, vI (iw (l2 + 0)), vI (iw (l3 + 1)), vI q5.1, vI q35.1, vI 0]) (st' := []) (g' := q35.2) k203_149 rfl rfl ?_
                refine q_s (pc' := 18) (ls' := [vR 137, vI l1, vI (iw (l2 + 0)), vI (iw (l3 + 1)), vI q5.1, vI q35.1, vI 0]) (st' := []) (g' := q35.2) k203_152 rfl rfl ?_
                rfl
          · refine q_s (pc' := 105) (ls' := [vR 137, vI l1, vI l2, vI l3, vI q5.1, vI q35.1, vI 0]) (st' := [vI 0, vI l2]) (g' := q35.2) k203_103 rfl rfl ?_
            refine q_s (pc' := 112) (ls' := [vR 137, vI l1, vI l2, vI l3, vI q5.1, vI q35.1, vI 0]) (st' := [vI l2]) (g' := q35.2) k203_105 rfl rfl ?_
            refine q_s (pc' := 113) (ls' := [vR 137, vI l1, vI l2, vI l3, vI q5.1, vI q35.1, vI 0]) (st' := [vI 0, vI l2]) (g' := q35.2) k203_112 rfl rfl ?_
            refine q_s (pc' := 147) (ls' := [vR 137, vI l1, vI l2, vI l3, vI q5.1, vI q35.1, vI 0]) (st' := [vI 0, vI l2]) (g' := q35.2) k203_113 rfl rfl ?_
            refine q_s (pc' := 148) (ls' := [vR 137, vI l1, vI l2, vI l3, vI q5.1, vI q35.1, vI 0]) (st' := [vI (iw (l2 + 0))]) (g' := q35.2) k203_147 rfl rfl ?_
            refine q_s (pc' := 149) (ls' := [vR 137, vI l1, vI (iw (l2 + 0)), vI l3, vI q5.1, vI q35.1, vI 0]) (st' := []) (g' := q35.2) k203_148 rfl rfl ?_
            refine q_s (pc' := 152) (ls' := [vR 137, vI l1, vI (iw (l2 + 0)), vI (iw (l3 + 1)), vI q5.1, vI q35.1, vI 0]) (st' := []) (g' := q35.2) k203_149 rfl rfl ?_
            refine q_s (pc' := 18) (ls' := [vR 137, vI l1, vI (iw (l2 + 0)), vI (iw (l3 + 1)), vI q5.1, vI q35.1, vI 0]) (st' := []) (g' := q35.2) k203_152 rfl rfl ?_
            rfl
        · refine q_s (pc' := 88) (ls' := [vR 137, vI l1, vI l2, vI l3, vI q5.1, vI q35.1, vI 0]) (st' := [vI q35.1, vI l2]) (g' := q35.2) k203_86 rfl rfl ?_
          refine q_s (pc' := 89) (ls' := [vR 137, vI l1, vI l2, vI l3, vI q5.1, vI q35.1, vI 0]) (st' := [vR 137, vI q35.1, vI l2]) (g' := q35.2) k203_88 rfl rfl ?_
          refine q_getF (r := 143) (pc' := 92) k203_89 rfl rfl rfl rfl ?_
          refine q_s (pc' := 93) (ls' := [vR 137, vI l1, vI l2, vI l3, vI q5.1, vI q35.1, vI 0]) (st' := [vI l3, vR 143, vI q35.1, vI l2]) (g' := q35.2) k203_92 rfl rfl ?_
          refine q_iald (n := 16) (pc' := 94) rfl k203_93 rfl rfl (fun h42 => ?_)
          refine q_s (pc' := 95) (ls' := [vR 137, vI l1, vI l2, vI l3, vI q5.1, vI q35.1, vI 0]) (st' := [vI (iw (q35.1 * (q35.2 143 l3))), vI l2]) (g' := q35.2) k203_94 rfl rfl ?_
          refine q_s (pc' := 147) (ls' := [vR 137, vI l1, vI l2, vI l3, vI q5.1, vI q35.1, vI 0]) (st' := [vI (iw (q35.1 * (q35.2 143 l3))), vI l2]) (g' := q35.2) k203_95 rfl rfl ?_
          refine q_s (pc' := 148) (ls' := [vR 137, vI l1, vI l2, vI l3, vI q5.1, vI q35.1, vI 0]) (st' := [vI (iw (l2 + (iw (q35.1 * (q35.2 143 l3)))))]) (g' := q35.2) k203_147 rfl rfl ?_
          refine q_s (pc' := 149) (ls' := [vR 137, vI l1, vI (iw (l2 + (iw (q35.1 * (q35.2 143 l3))))), vI l3, vI q5.1, vI q35.1, vI 0]) (st' := []) (g' := q35.2) k203_148 rfl rfl ?_
          refine q_s (pc' := 152) (ls' := [vR 137, vI l1, vI (iw (l2 + (iw (q35.1 * (q35.2 143 l3))))), vI (iw (l3 + 1)), vI q5.1, vI q35.1, vI 0]) (st' := []) (g' := q35.2) k203_149 rfl rfl ?_
          refine q_s (pc' := 18) (ls' := [vR 137, vI l1, vI (iw (l2 + (iw (q35.1 * (q35.2 143 l3))))), vI (iw (l3 + 1)), vI q5.1, vI q35.1, vI 0]) (st' := []) (g' := q35.2) k203_152 rfl rfl ?_
          rfl
      · refine q_s (pc' := 59) (ls' := [vR 137, vI l1, vI l2, vI l3, vI q5.1, vI q35.1, w6]) (st' := [vR 137]) (g' := q35.2) k203_58 rfl rfl ?_
        refine q_getI (w := 10) (pc' := 62) k203_59 rfl rfl rfl rfl ?_
        refine q_if (P := q35.2 137 10 ≤ 0) (t := 78) (pc' := 65) k203_62 Iff.rfl rfl rfl (fun h43 => ?_) (fun h43 => ?_)
        · refine q_s (pc' := 79) (ls' := [vR 137, vI l1, vI l2, vI l3, vI q5.1, vI q35.1, w6]) (st' := [vI 0]) (g' := q35.2) k203_78 rfl rfl ?_
          refine q_s (pc' := 81) (ls' := [vR 137, vI l1, vI l2, vI l3, vI q5.1, vI q35.1, vI 0]) (st' := []) (g' := q35.2) k203_79 rfl rfl ?_
          refine q_s (pc' := 82) (ls' := [vR 137, vI l1, vI l2, vI l3, vI q5.1, vI q35.1, vI 0]) (st' := [vI l2]) (g' := q35.2) k203_81 rfl rfl ?_
          refine q_s (pc' := 83) (ls' := [vR 137, vI l1, vI l2, vI l3, vI q5.1, vI q35.1, vI 0]) (st' := [vI l1, vI l2]) (g' := q35.2) k203_82 rfl rfl ?_
          refine q_if (P := l1 ≠ 0) (t := 98) (pc' := 86) k203_83 Iff.rfl rfl rfl (fun h44 => ?_) (fun h44 => ?_)
          · refine q_s (pc' := 99) (ls' := [vR 137, vI l1, vI l2, vI l3, vI q5.1, vI q35.1, vI 0]) (st' := [vI l1, vI l2]) (g' := q35.2) k203_98 rfl rfl ?_
            refine q_s (pc' := 100) (ls' := [vR 137, vI l1, vI l2, vI l3, vI q5.1, vI q35.1, vI 0]) (st' := [vI 1, vI l1, vI l2]) (g' := q35.2) k203_99 rfl rfl ?_
            refine q_ic (P := l1 ≠ 1) (t := 116) (pc' := 103) k203_100 Iff.rfl rfl rfl (fun h45 => ?_) (fun h45 => ?_)
            · refine q_s (pc' := 117) (ls' := [vR 137, vI l1, vI l2, vI l3, vI q5.1, vI q35.1, vI 0]) (st' := [vI l1, vI l2]) (g' := q35.2) k203_116 rfl rfl ?_
              refine q_s (pc' := 118) (ls' := [vR 137, vI l1, vI l2, vI l3, vI q5.1, vI q35.1, vI 0]) (st' := [vI 2, vI l1, vI l2]) (g' := q35.2) k203_117 rfl rfl ?_
              refine q_ic (P := l1 ≠ 2) (t := 134) (pc' := 121) k203_118 Iff.rfl rfl rfl (fun h46 => ?_) (fun h46 => ?_)
              · refine q_s (pc' := 136) (ls' := [vR 137, vI l1, vI l2, vI l3, vI q5.1, vI q35.1, vI 0]) (st' := [vI q5.1, vI l2]) (g' := q35.2) k203_134 rfl rfl ?_
                refine q_if (P := q5.1 = 0) (t := 146) (pc' := 139) k203_136 Iff.rfl rfl rfl (fun h47 => ?_) (fun h47 => ?_)
                · refine q_s (pc' := 147) (ls' := [vR 137, vI l1, vI l2, vI l3, vI q5.1, vI q35.1, vI 0]) (st' := [vI 0, vI l2]) (g' := q35.2) k203_146 rfl rfl ?_
                  refine q_s (pc' := 148) (ls' := [vR 137, vI l1, vI l2, vI l3, vI q5.1, vI q35.1, vI 0]) (st' := [vI (iw (l2 + 0))]) (g' := q35.2) k203_147 rfl rfl ?_
                  refine q_s (pc' := 149) (ls' := [vR 137, vI l1, vI (iw (l2 + 0)), vI l3, vI q5.1, vI q35.1, vI 0]) (st' := []) (g' := q35.2) k203_148 rfl rfl ?_
                  refine q_s (pc' := 152) (ls' := [vR 137, vI l1, vI (iw (l2 + 0)), vI (iw (l3 + 1)), vI q5.1, vI q35.1, vI 0]) (st' := []) (g' := q35.2) k203_149 rfl rfl ?_
                  refine q_s (pc' := 18) (ls' := [vR 137, vI l1, vI (iw (l2 + 0)), vI (iw (l3 + 1)), vI q5.1, vI q35.1, vI 0]) (st' := []) (g' := q35.2) k203_152 rfl rfl ?_
                  rfl
                · refine q_s (pc' := 140) (ls' := [vR 137, vI l1, vI l2, vI l3, vI q5.1, vI q35.1, vI 0]) (st' := [vR 137, vI l2]) (g' := q35.2) k203_139 rfl rfl ?_
                  refine q_getI (w := 10) (pc' := 143) k203_140 rfl rfl rfl rfl ?_
                  refine q_s (pc' := 147) (ls' := [vR 137, vI l1, vI l2, vI l3, vI q5.1, vI q35.1, vI 0]) (st' := [vI (q35.2 137 10), vI l2]) (g' := q35.2) k203_143 rfl rfl ?_
                  refine q_s (pc' := 148) (ls' := [vR 137, vI l1, vI l2, vI l3, vI q5.1, vI q35.1, vI 0]) (st' := [vI (iw (l2 + (q35.2 137 10)))]) (g' := q35.2) k203_147 rfl rfl ?_
                  refine q_s (pc' := 149) (ls' := [vR 137, vI l1, vI (iw (l2 + (q35.2 137 10))), vI l3, vI q5.1, vI q35.1, vI 0]) (st' := []) (g' := q35.2) k203_148 rfl rfl ?_
                  refine q_s (pc' := 152) (ls' := [vR 137, vI l1, vI (iw (l2 + (q35.2 137 10))), vI (iw (l3 + 1)), vI q5.1, vI q35.1, vI 0]) (st' := []) (g' := q35.2) k203_149 rfl rfl ?_
                  refine q_s (pc' := 18) (ls' := [vR 137, vI l1, vI (iw (l2 + (q35.2 137 10))), vI (iw (l3 + 1)), vI q5.1, vI q35.1, vI 0]) (st' := []) (g' := q35.2) k203_152 rfl rfl ?_
                  rfl
              · refine q_s (pc' := 123) (ls' := [vR 137, vI l1, vI l2, vI l3, vI q5.1, vI q35.1, vI 0]) (st' := [vI q5.1, vI l2]) (g' := q35.2) k203_121 rfl rfl ?_
                refine q_if (P := q5.1 = 0) (t := 130) (pc' := 126) k203_123 Iff.rfl rfl rfl (fun h48 => ?_) (fun h48 => ?_)
                · refine q_s (pc' := 131) (ls' := [vR 137, vI l1, vI l2, vI l3, vI q5.1, vI q35.1, vI 0]) (st' := [vI 1, vI l2]) (g' := q35.2) k203_130 rfl rfl ?_
                  refine q_s (pc' := 147) (ls' := [vR 137, vI l1, vI l2, vI l3, vI q5.1, vI q35.1, vI 0]) (st' := [vI 1, vI l2]) (g' := q35.2) k203_131 rfl rfl ?_
                  refine q_s (pc' := 148) (ls' := [vR 137, vI l1, vI l2, vI l3, vI q5.1, vI q35.1, vI 0]) (st' := [vI (iw (l2 + 1))]) (g' := q35.2) k203_147 rfl rfl ?_
                  refine q_s (pc' := 149) (ls' := [vR 137, vI l1, vI (iw (l2 + 1)), vI l3, vI q5.1, vI q35.1, vI 0]) (st' := []) (g' := q35.2) k203_148 rfl rfl ?_
                  refine q_s (pc' := 152) (ls' := [vR 137, vI l1, vI (iw (l2 + 1)), vI (iw (l3 + 1)), vI q5.1, vI q35.1, vI 0]) (st' := []) (g' := q35.2) k203_149 rfl rfl ?_
                  refine q_s (pc' := 18) (ls' := [vR 137, vI l1, vI (iw (l2 + 1)), vI (iw (l3 + 1)), vI q5.1, vI q35.1, vI 0]) (st' := []) (g' := q35.2) k203_152 rfl rfl ?_
                  rfl
                · refine q_s (pc' := 127) (ls' := [vR 137, vI l1, vI l2, vI l3, vI q5.1, vI q35.1, vI 0]) (st' := [vI 0, vI l2]) (g' := q35.2) k203_126 rfl rfl ?_
                  refine q_s (pc' := 147) (ls' := [vR 137, vI l1, vI l2, vI l3, vI q5.1, vI q35.1, vI 0]) (st' := [vI 0, vI l2]) (g' := q35.2) k203_127 rfl rfl ?_
                  refine q_s (pc' := 148) (ls' := [vR 137, vI l1, vI l2, vI l3, vI q5.1, vI q35.1, vI 0]) (st' := [vI (iw (l2 + 0))]) (g' := q35.2) k203_147 rfl rfl ?_
                  refine q_s (pc' := 149) (ls' := [vR 137, vI l1, vI (iw (l2 + 0)), vI l3, vI q5.1, vI q35.1, vI 0]) (st' := []) (g' := q35.2) k203_148 rfl rfl ?_
                  refine q_s (pc' := 152) (ls' := [vR 137, vI l1, vI (iw (l2 + 0)), vI (iw (l3 + 1)), vI q5.1, vI q35.1, vI 0]) (st' := []) (g' := q35.2) k203_149 rfl rfl ?_
                  refine q_s (pc' := 18) (ls' := [vR 137, vI l1, vI (iw (l2 + 0)), vI (iw (l3 + 1)), vI q5.1, vI q35.1, vI 0]) (st' := []) (g' := q35.2) k203_152 rfl rfl ?_
                  rfl
            · refine q_s (pc' := 105) (ls' := [vR 137, vI l1, vI l2, vI l3, vI q5.1, vI q35.1, vI 0]) (st' := [vI 0, vI l2]) (g' := q35.2) k203_103 rfl rfl ?_
              refine q_s (pc' := 112) (ls' := [vR 137, vI l1, vI l2, vI l3, vI q5.1, vI q35.1, vI 0]) (st' := [vI l2]) (g' := q35.2) k203_105 rfl rfl ?_
              refine q_s (pc' := 113) (ls' := [vR 137, vI l1, vI l2, vI l3, vI q5.1, vI q35.1, vI 0]) (st' := [vI 0, vI l2]) (g' := q35.2) k203_112 rfl rfl ?_
              refine q_s (pc' := 147) (ls' := [vR 137, vI l1, vI l2, vI l3, vI q5.1, vI q35.1, vI 0]) (st' := [vI 0, vI l2]) (g' := q35.2) k203_113 rfl rfl ?_
              refine q_s (pc' := 148) (ls' := [vR 137, vI l1, vI l2, vI l3, vI q5.1, vI q35.1, vI 0]) (st' := [vI (iw (l2 + 0))]) (g' := q35.2) k203_147 rfl rfl ?_
              refine q_s (pc' := 149) (ls' := [vR 137, vI l1, vI (iw (l2 + 0)), vI l3, vI q5.1, vI q35.1, vI 0]) (st' := []) (g' := q35.2) k203_148 rfl rfl ?_
              refine q_s (pc' := 152) (ls' := [vR 137, vI l1, vI (iw (l2 + 0)), vI (iw (l3 + 1)), vI q5.1, vI q35.1, vI 0]) (st' := []) (g' := q35.2) k203_149 rfl rfl ?_
              refine q_s (pc' := 18) (ls' := [vR 137, vI l1, vI (iw (l2 + 0)), vI (iw (l3 + 1)), vI q5.1, vI q35.1, vI 0]) (st' := []) (g' := q35.2) k203_152 rfl rfl ?_
              rfl
          · refine q_s (pc' := 88) (ls' := [vR 137, vI l1, vI l2, vI l3, vI q5.1, vI q35.1, vI 0]) (st' := [vI q35.1, vI l2]) (g' := q35.2) k203_86 rfl rfl ?_
            refine q_s (pc' := 89) (ls' := [vR 137, vI l1, vI l2, vI l3, vI q5.1, vI q35.1, vI 0]) (st' := [vR 137, vI q35.1, vI l2]) (g' := q35.2) k203_88 rfl rfl ?_
            refine q_getF (r := 143) (pc' := 92) k203_89 rfl rfl rfl rfl ?_
            refine q_s (pc' := 93) (ls' := [vR 137, vI l1, vI l2, vI l3, vI q5.1, vI q35.1, vI 0]) (st' := [vI l3, vR 143, vI q35.1, vI l2]) (g' := q35.2) k203_92 rfl rfl ?_
            refine q_iald (n := 16) (pc' := 94) rfl k203_93 rfl rfl (fun h49 => ?_)
            refine q_s (pc' := 95) (ls' := [vR 137, vI l1, vI l2, vI l3, vI q5.1, vI q35.1, vI 0]) (st' := [vI (iw (q35.1 * (q35.2 143 l3))), vI l2]) (g' := q35.2) k203_94 rfl rfl ?_
            refine q_s (pc' := 147) (ls' := [vR 137, vI l1, vI l2, vI l3, vI q5.1, vI q35.1, vI 0]) (st' := [vI (iw (q35.1 * (q35.2 143 l3))), vI l2]) (g' := q35.2) k203_95 rfl rfl ?_
            refine q_s (pc' := 148) (ls' := [vR 137, vI l1, vI l2, vI l3, vI q5.1, vI q35.1, vI 0]) (st' := [vI (iw (l2 + (iw (q35.1 * (q35.2 143 l3)))))]) (g' := q35.2) k203_147 rfl rfl ?_
            refine q_s (pc' := 149) (ls' := [vR 137, vI l1, vI (iw (l2 + (iw (q35.1 * (q35.2 143 l3))))), vI l3, vI q5.1, vI q35.1, vI 0]) (st' := []) (g' := q35.2) k203_148 rfl rfl ?_
            refine q_s (pc' := 152) (ls' := [vR 137, vI l1, vI (iw (l2 + (iw (q35.1 * (q35.2 143 l3))))), vI (iw (l3 + 1)), vI q5.1, vI q35.1, vI 0]) (st' := []) (g' := q35.2) k203_149 rfl rfl ?_
            refine q_s (pc' := 18) (ls' := [vR 137, vI l1, vI (iw (l2 + (iw (q35.1 * (q35.2 143 l3))))), vI (iw (l3 + 1)), vI q5.1, vI q35.1, vI 0]) (st' := []) (g' := q35.2) k203_152 rfl rfl ?_
            rfl
        · refine q_s (pc' := 66) (ls' := [vR 137, vI l1, vI l2, vI l3, vI q5.1, vI q35.1, w6]) (st' := [vR 137]) (g' := q35.2) k203_65 rfl rfl ?_
          refine q_s (pc' := 67) (ls' := [vR 137, vI l1, vI l2, vI l3, vI q5.1, vI q35.1, w6]) (st' := [vI l3, vR 137]) (g' := q35.2) k203_66 rfl rfl ?_
          refine q_callI (ls0 := [vR 137, vI l3]) (rest := []) (pc' := 70) rfl k203_67 rfl (hy4 rfl rfl rfl rfl) rfl rfl hq_164 rfl (fun q50 => ?_)
          refine q_s (pc' := 71) (ls' := [vR 137, vI l1, vI l2, vI l3, vI q5.1, vI q35.1, w6]) (st' := [vI 2, vI q50.1]) (g' := q50.2) k203_70 rfl rfl ?_
          refine q_ic (P := q50.1 ≠ 2) (t := 78) (pc' := 74) k203_71 Iff.rfl rfl rfl (fun h51 => ?_) (fun h51 => ?_)
          · refine q_s (pc' := 79) (ls' := [vR 137, vI l1, vI l2, vI l3, vI q5.1, vI q35.1, w6]) (st' := [vI 0]) (g' := q50.2) k203_78 rfl rfl ?_
            refine q_s (pc' := 81) (ls' := [vR 137, vI l1, vI l2, vI l3, vI q5.1, vI q35.1, vI 0]) (st' := []) (g' := q50.2) k203_79 rfl rfl ?_
            refine q_s (pc' := 82) (ls' := [vR 137, vI l1, vI l2, vI l3, vI q5.1, vI q35.1, vI 0]) (st' := [vI l2]) (g' := q50.2) k203_81 rfl rfl ?_
            refine q_s (pc' := 83) (ls' := [vR 137, vI l1, vI l2, vI l3, vI q5.1, vI q35.1, vI 0]) (st' := [vI l1, vI l2]) (g' := q50.2) k203_82 rfl rfl ?_
            refine q_if (P := l1 ≠ 0) (t := 98) (pc' := 86) k203_83 Iff.rfl rfl rfl (fun h52 => ?_) (fun h52 => ?_)
            · refine q_s (pc' := 99) (ls' := [vR 137, vI l1, vI l2, vI l3, vI q5.1, vI q35.1, vI 0]) (st' := [vI l1, vI l2]) (g' := q50.2) k203_98 rfl rfl ?_
              refine q_s (pc' := 100) (ls' := [vR 137, vI l1, vI l2, vI l3, vI q5.1, vI q35.1, vI 0]) (st' := [vI 1, vI l1, vI l2]) (g' := q50.2) k203_99 rfl rfl ?_
              refine q_ic (P := l1 ≠ 1) (t := 116) (pc' := 103) k203_100 Iff.rfl rfl rfl (fun h53 => ?_) (fun h53 => ?_)
              · refine q_s (pc' := 117) (ls' := [vR 137, vI l1, vI l2, vI l3, vI q5.1, vI q35.1, vI 0]) (st' := [vI l1, vI l2]) (g' := q50.2) k203_116 rfl rfl ?_
                refine q_s (pc' := 118) (ls' := [vR 137, vI l1, vI l2, vI l3, vI q5.1, vI q35.1, vI 0]) (st' := [vI 2, vI l1, vI l2]) (g' := q50.2) k203_117 rfl rfl ?_
                refine q_ic (P := l1 ≠ 2) (t := 134) (pc' := 121) k203_118 Iff.rfl rfl rfl (fun h54 => ?_) (fun h54 => ?_)
                · refine q_s (pc' := 136) (ls' := [vR 137, vI l1, vI l2, vI l3, vI q5.1, vI q35.1, vI 0]) (st' := [vI q5.1, vI l2]) (g' := q50.2) k203_134 rfl rfl ?_
                  refine q_if (P := q5.1 = 0) (t := 146) (pc' := 139) k203_136 Iff.rfl rfl rfl (fun h55 => ?_) (fun h55 => ?_)
                  · refine q_s (pc' := 147) (ls' := [vR 137, vI l1, vI l2, vI l3, vI q5.1, vI q35.1, vI 0]) (st' := [vI 0, vI l2]) (g' := q50.2) k203_146 rfl rfl ?_
                    refine q_s (pc' := 148) (ls' := [vR 137, vI l1, vI l2, vI l3, vI q5.1, vI q35.1, vI 0]) (st' := [vI (iw (l2 + 0))]) (g' := q50.2) k203_147 rfl rfl ?_
                    refine q_s (pc' := 149) (ls' := [vR 137, vI l1, vI (iw (l2 + 0)), vI l3, vI q5.1, vI q35.1, vI 0]) (st' := []) (g' := q50.2) k203_148 rfl rfl ?_
                    refine q_s (pc' := 152) (ls' := [vR 137, vI l1, vI (iw (l2 + 0)), vI (iw (l3 + 1)), vI q5.1, vI q35.1, vI 0]) (st' := []) (g' := q50.2) k203_149 rfl rfl ?_
                    refine q_s (pc' := 18) (ls' := [vR 137, vI l1, vI (iw (l2 + 0)), vI (iw (l3 + 1)), vI q5.1, vI q35.1, vI 0]) (st' := []) (g' := q50.2) k203_152 rfl rfl ?_
                    rfl
                  · refine q_s (pc' := 140) (ls' := [vR 137, vI l1, vI l2, vI l3, vI q5.1, vI q35.1, vI 0]) (st' := [vR 137, vI l2]) (g' := q50.2) k203_139 rfl rfl ?_
                    refine q_getI (w := 10) (pc' := 143) k203_140 rfl rfl rfl rfl ?_
                    refine q_s (pc' := 147) (ls' := [vR 137, vI l1, vI l2, vI l3, vI q5.1, vI q35.1, vI 0]) (st' := [vI (q50.2 137 10), vI l2]) (g' := q50.2) k203_143 rfl rfl ?_
                    refine q_s (pc' := 148) (ls' := [vR 137, vI l1, vI l2, vI l3, vI q5.1, vI q35.1, vI 0]) (st' := [vI (iw (l2 + (q50.2 137 10)))]) (g' := q50.2) k203_147 rfl rfl ?_
                    refine q_s (pc' := 149) (ls' := [vR 137, vI l1, vI (iw (l2 + (q50.2 137 10))), vI l3, vI q5.1, vI q35.1, vI 0]) (st' := []) (g' := q50.2) k203_148 rfl rfl ?_
                    refine q_s (pc' := 152) (ls' := [vR 137, vI l1, vI (iw (l2 + (q50.2 137 10))), vI (iw (l3 + 1)), vI q5.1, vI q35.1, vI 0]) (st' := []) (g' := q50.2) k203_149 rfl rfl ?_
                    refine q_s (pc' := 18) (ls' := [vR 137, vI l1, vI (iw (l2 + (q50.2 137 10))), vI (iw (l3 + 1)), vI q5.1, vI q35.1, vI 0]) (st' := []) (g' := q50.2) k203_152 rfl rfl ?_
                    rfl
                · refine q_s (pc' := 123) (ls' := [vR 137, vI l1, vI l2, vI l3, vI q5.1, vI q35.1, vI 0]) (st' := [vI q5.1, vI l2]) (g' := q50.2) k203_121 rfl rfl ?_
                  refine q_if (P := q5.1 = 0) (t := 130) (pc' := 126) k203_123 Iff.rfl rfl rfl (fun h56 => ?_) (fun h56 => ?_)
                  · refine q_s (pc' := 131) (ls' := [vR 137, vI l1, vI l2, vI l3, vI q5.1, vI q35.1, vI 0]) (st' := [vI 1, vI l2]) (g' := q50.2) k203_130 rfl rfl ?_
                    refine q_s (pc' := 147) (ls' := [vR 137, vI l1, vI l2, vI l3, vI q5.1, vI q35.1, vI 0]) (st' := [vI 1, vI l2]) (g' := q50.2) k203_131 rfl rfl ?_
                    refine q_s (pc' := 148) (ls' := [vR 137, vI l1, vI l2, vI l3, vI q5.1, vI q35.1, vI 0]) (st' := [vI (iw (l2 + 1))]) (g' := q50.2) k203_147 rfl rfl ?_
                    refine q_s (pc' := 149) (ls' := [vR 137, vI l1, vI (iw (l2 + 1)), vI l3, vI q5.1, vI q35.1, vI 0]) (st' := []) (g' := q50.2) k203_148 rfl rfl ?_
                    refine q_s (pc' := 152) (ls' := [vR 137, vI l1, vI (iw (l2 + 1)), vI (iw (l3 + 1)), vI q5.1, vI q35.1, vI 0]) (st' := []) (g' := q50.2) k203_149 rfl rfl ?_
                    refine q_s (pc' := 18) (ls' := [vR 137, vI l1, vI (iw (l2 + 1)), vI (iw (l3 + 1)), vI q5.1, vI q35.1, vI 0]) (st' := []) (g' := q50.2) k203_152 rfl rfl ?_
                    rfl
                  · refine q_s (pc' := 127) (ls' := [vR 137, vI l1, vI l2, vI l3, vI q5.1, vI q35.1, vI 0]) (st' := [vI 0, vI l2]) (g' := q50.2) k203_126 rfl rfl ?_
                    refine q_s (pc' := 147) (ls' := [vR 137, vI l1, vI l2, vI l3, vI q5.1, vI q35.1, vI 0]) (st' := [vI 0, vI l2]) (g' := q50.2) k203_127 rfl rfl ?_
                    refine q_s (pc' := 148) (ls' := [vR 137, vI l1, vI l2, vI l3, vI q5.1, vI q35.1, vI 0]) (st' := [vI (iw (l2 + 0))]) (g' := q50.2) k203_147 rfl rfl ?_
                    refine q_s (pc' := 149) (ls' := [vR 137, vI l1, vI (iw (l2 + 0)), vI l3, vI q5.1, vI q35.1, vI 0]) (st' := []) (g' := q50.2) k203_148 rfl rfl ?_
                    refine q_s (pc' := 152) (ls' := [vR 137, vI l1, vI (iw (l2 + 0)), vI (iw (l3 + 1)), vI q5.1, vI q35.1, vI 0]) (st' := []) (g' := q50.2) k203_149 rfl rfl ?_
                    refine q_s (pc' := 18) (ls' := [vR 137, vI l1, vI (iw (l2 + 0)), vI (iw (l3 + 1)), vI q5.1, vI q35.1, vI 0]) (st' := []) (g' := q50.2) k203_152 rfl rfl ?_
                    rfl
              · refine q_s (pc' := 105) (ls' := [vR 137, vI l1, vI l2, vI l3, vI q5.1, vI q35.1, vI 0]) (st' := [vI 0, vI l2]) (g' := q50.2) k203_103 rfl rfl ?_
                refine q_s (pc' := 112) (ls' := [vR 137, vI l1, vI l2, vI l3, vI q5.1, vI q35.1, vI 0]) (st' := [vI l2]) (g' := q50.2) k203_105 rfl rfl ?_
                refine q_s (pc' := 113) (ls' := [vR 137, vI l1, vI l2, vI l3, vI q5.1, vI q35.1, vI 0]) (st' := [vI 0, vI l2]) (g' := q50.2) k203_112 rfl rfl ?_
                refine q_s (pc' := 147) (ls' := [vR 137, vI l1, vI l2, vI l3, vI q5.1, vI q35.1, vI 0]) (st' := [vI 0, vI l2]) (g' := q50.2) k203_113 rfl rfl ?_
                refine q_s (pc' := 148) (ls' := [vR 137, vI l1, vI l2, vI l3, vI q5.1, vI q35.1, vI 0]) (st' := [vI (iw (l2 + 0))]) (g' := q50.2) k203_147 rfl rfl ?_
                refine q_s (pc' := 149) (ls' := [vR 137, vI l1, vI (iw (l2 + 0)), vI l3, vI q5.1, vI q35.1, vI 0]) (st' := []) (g' := q50.2) k203_148 rfl rfl ?_
                refine q_s (pc' := 152) (ls' := [vR 137, vI l1, vI (iw (l2 + 0)), vI (iw (l3 + 1)), vI q5.1, vI q35.1, vI 0]) (st' := []) (g' := q50.2) k203_149 rfl rfl ?_
                refine q_s (pc' := 18) (ls' := [vR 137, vI l1, vI (iw (l2 + 0)), vI (iw (l3 + 1)), vI q5.1, vI q35.1, vI 0]) (st' := []) (g' := q50.2) k203_152 rfl rfl ?_
                rfl
            · refine q_s (pc' := 88) (ls' := [vR 137, vI l1, vI l2, vI l3, vI q5.1, vI q35.1, vI 0]) (st' := [vI q35.1, vI l2]) (g' := q50.2) k203_86 rfl rfl ?_
              refine q_s (pc' := 89) (ls' := [vR 137, vI l1, vI l2, vI l3, vI q5.1, vI q35.1, vI 0]) (st' := [vR 137, vI q35.1, vI l2]) (g' := q50.2) k203_88 rfl rfl ?_
              refine q_getF (r := 143) (pc' := 92) k203_89 rfl rfl rfl rfl ?_
              refine q_s (pc' := 93) (ls' := [vR 137, vI l1, vI l2, vI l3, vI q5.1, vI q35.1, vI 0]) (st' := [vI l3, vR 143, vI q35.1, vI l2]) (g' := q50.2) k203_92 rfl rfl ?_
              refine q_iald (n := 16) (pc' := 94) rfl k203_93 rfl rfl (fun h57 => ?_)
              refine q_s (pc' := 95) (ls' := [vR 137, vI l1, vI l2, vI l3, vI q5.1, vI q35.1, vI 0]) (st' := [vI (iw (q35.1 * (q50.2 143 l3))), vI l2]) (g' := q50.2) k203_94 rfl rfl ?_
              refine q_s (pc' := 147) (ls' := [vR 137, vI l1, vI l2, vI l3, vI q5.1, vI q35.1, vI 0]) (st' := [vI (iw (q35.1 * (q50.2 143 l3))), vI l2]) (g' := q50.2) k203_95 rfl rfl ?_
              refine q_s (pc' := 148) (ls' := [vR 137, vI l1, vI l2, vI l3, vI q5.1, vI q35.1, vI 0]) (st' := [vI (iw (l2 + (iw (q35.1 * (q50.2 143 l3)))))]) (g' := q50.2) k203_147 rfl rfl ?_
              refine q_s (pc' := 149) (ls' := [vR 137, vI l1, vI (iw (l2 + (iw (q35.1 * (q50.2 143 l3))))), vI l3, vI q5.1, vI q35.1, vI 0]) (st' := []) (g' := q50.2) k203_148 rfl rfl ?_
              refine q_s (pc' := 152) (ls' := [vR 137, vI l1, vI (iw (l2 + (iw (q35.1 * (q50.2 143 l3))))), vI (iw (l3 + 1)), vI q5.1, vI q35.1, vI 0]) (st' := []) (g' := q50.2) k203_149 rfl rfl ?_
              refine q_s (pc' := 18) (ls' := [vR 137, vI l1, vI (iw (l2 + (iw (q35.1 * (q50.2 143 l3))))), vI (iw (l3 + 1)), vI q5.1, vI q35.1, vI 0]) (st' := []) (g' := q50.2) k203_152 rfl rfl ?_
              rfl
          · refine q_s (pc' := 75) (ls' := [vR 137, vI l1, vI l2, vI l3, vI q5.1, vI q35.1, w6]) (st' := [vI 1]) (g' := q50.2) k203_74 rfl rfl ?_
            refine q_s (pc' := 79) (ls' := [vR 137, vI l1, vI l2, vI l3, vI q5.1, vI q35.1, w6]) (st' := [vI 1]) (g' := q50.2) k203_75 rfl rfl ?_
            refine q_s (pc' := 81) (ls' := [vR 137, vI l1, vI l2, vI l3, vI q5.1, vI q35.1, vI 1]) (st' := []) (g' := q50.2) k203_79 rfl rfl ?_
            refine q_s (pc' := 82) (ls' := [vR 137, vI l1, vI l2, vI l3, vI q5.1, vI q35.1, vI 1]) (st' := [vI l2]) (g' := q50.2) k203_81 rfl rfl ?_
            refine q_s (pc' := 83) (ls' := [vR 137, vI l1, vI l2, vI l3, vI q5.1, vI q35.1, vI 1]) (st' := [vI l1, vI l2]) (g' := q50.2) k203_82 rfl rfl ?_
            refine q_if (P := l1 ≠ 0) (t := 98) (pc' := 86) k203_83 Iff.rfl rfl rfl (fun h58 => ?_) (fun h58 => ?_)
            · refine q_s (pc' := 99) (ls' := [vR 137, vI l1, vI l2, vI l3, vI q5.1, vI q35.1, vI 1]) (st' := [vI l1, vI l2]) (g' := q50.2) k203_98 rfl rfl ?_
              refine q_s (pc' := 100) (ls' := [vR 137, vI l1, vI l2, vI l3, vI q5.1, vI q35.1, vI 1]) (st' := [vI 1, vI l1, vI l2]) (g' := q50.2) k203_99 rfl rfl ?_
              refine q_ic (P := l1 ≠ 1) (t := 116) (pc' := 103) k203_100 Iff.rfl rfl rfl (fun h59 => ?_) (fun h59 => ?_)
              · refine q_s (pc' := 117) (ls' := [vR 137, vI l1, vI l2, vI l3, vI q5.1, vI q35.1, vI 1]) (st' := [vI l1, vI l2]) (g' := q50.2) k203_116 rfl rfl ?_
                refine q_s (pc' := 118) (ls' := [vR 137, vI l1, vI l2, vI l3, vI q5.1, vI q35.1, vI 1]) (st' := [vI 2, vI l1, vI l2]) (g' := q50.2) k203_117 rfl rfl ?_
                refine q_ic (P := l1 ≠ 2) (t := 134) (pc' := 121) k203_118 Iff.rfl rfl rfl (fun h60 => ?_) (fun h60 => ?_)
                · refine q_s (pc' := 136) (ls' := [vR 137, vI l1, vI l2, vI l3, vI q5.1, vI q35.1, vI 1]) (st' := [vI q5.1, vI l2]) (g' := q50.2) k203_134 rfl rfl ?_
                  refine q_if (P := q5.1 = 0) (t := 146) (pc' := 139) k203_136 Iff.rfl rfl rfl (fun h61 => ?_) (fun h61 => ?_)
                  · refine q_s (pc' := 147) (ls' := [vR 137, vI l1, vI l2, vI l3, vI q5.1, vI q35.1, vI 1]) (st' := [vI 0, vI l2]) (g' := q50.2) k203_146 rfl rfl ?_
                    refine q_s (pc' := 148) (ls' := [vR 137, vI l1, vI l2, vI l3, vI q5.1, vI q35.1, vI 1]) (st' := [vI (iw (l2 + 0))]) (g' := q50.2) k203_147 rfl rfl ?_
                    refine q_s (pc' := 149) (ls' := [vR 137, vI l1, vI (iw (l2 + 0)), vI l3, vI q5.1, vI q35.1, vI 1]) (st' := []) (g' := q50.2) k203_148 rfl rfl ?_
                    refine q_s (pc' := 152) (ls' := [vR 137, vI l1, vI (iw (l2 + 0)), vI (iw (l3 + 1)), vI q5.1, vI q35.1, vI 1]) (st' := []) (g' := q50.2) k203_149 rfl rfl ?_
                    refine q_s (pc' := 18) (ls' := [vR 137, vI l1, vI (iw (l2 + 0)), vI (iw (l3 + 1)), vI q5.1, vI q35.1, vI 1]) (st' := []) (g' := q50.2) k203_152 rfl rfl ?_
                    rfl
                  · refine q_s (pc' := 140) (ls' := [vR 137, vI l1, vI l2, vI l3, vI q5.1, vI q35.1, vI 1]) (st' := [vR 137, vI l2]) (g' := q50.2) k203_139 rfl rfl ?_
                    refine q_getI (w := 10) (pc' := 143) k203_140 rfl rfl rfl rfl ?_
                    refine q_s (pc' := 147) (ls' := [vR 137, vI l1, vI l2, vI l3, vI q5.1, vI q35.1, vI 1]) (st' := [vI (q50.2 137 10), vI l2]) (g' := q50.2) k203_143 rfl rfl ?_
                    refine q_s (pc' := 148) (ls' := [vR 137, vI l1, vI l2, vI l3, vI q5.1, vI q35.1, vI 1]) (st' := [vI (iw (l2 + (q50.2 137 10)))]) (g' := q50.2) k203_147 rfl rfl ?_
                    refine q_s (pc' := 149) (ls' := [vR 137, vI l1, vI (iw (l2 + (q50.2 137 10))), vI l3, vI q5.1, vI q35.1, vI 1]) (st' := []) (g' := q50.2) k203_148 rfl rfl ?_
                    refine q_s (pc' := 152) (ls' := [vR 137, vI l1, vI (iw (l2 + (q50.2 137 10))), vI (iw (l3 + 1)), vI q5.1, vI q35.1, vI 1]) (st' := []) (g' := q50.2) k203_149 rfl rfl ?_
                    refine q_s (pc' := 18) (ls' := [vR 137, vI l1, vI (iw (l2 + (q50.2 137 10))), vI (iw (l3 + 1)), vI q5.1, vI q35.1, vI 1]) (st' := []) (g' := q50.2) k203_152 rfl rfl ?_
                    rfl
                · refine q_s (pc' := 123) (ls' := [vR 137, vI l1, vI l2, vI l3, vI q5.1, vI q35.1, vI 1]) (st' := [vI q5.1, vI l2]) (g' := q50.2) k203_121 rfl rfl ?_
                  refine q_if (P := q5.1 = 0) (t := 130) (pc' := 126) k203_123 Iff.rfl rfl rfl (fun h62 => ?_) (fun h62 => ?_)
                  · refine q_s (pc' := 131) (ls' := [vR 137, vI l1, vI l2, vI l3, vI q5.1, vI q35.1, vI 1]) (st' := [vI 1, vI l2]) (g' := q50.2) k203_130 rfl rfl ?_
                    refine q_s (pc' := 147) (ls' := [vR 137, vI l1, vI l2, vI l3, vI q5.1, vI q35.1, vI 1]) (st' := [vI 1, vI l2]) (g' := q50.2) k203_131 rfl rfl ?_
                    refine q_s (pc' := 148) (ls' := [vR 137, vI l1, vI l2, vI l3, vI q5.1, vI q35.1, vI 1]) (st' := [vI (iw (l2 + 1))]) (g' := q50.2) k203_147 rfl rfl ?_
                    refine q_s (pc' := 149) (ls' := [vR 137, vI l1, vI (iw (l2 + 1)), vI l3, vI q5.1, vI q35.1, vI 1]) (st' := []) (g' := q50.2) k203_148 rfl rfl ?_
                    refine q_s (pc' := 152) (ls' := [vR 137, vI l1, vI (iw (l2 + 1)), vI (iw (l3 + 1)), vI q5.1, vI q35.1, vI 1]) (st' := []) (g' := q50.2) k203_149 rfl rfl ?_
                    refine q_s (pc' := 18) (ls' := [vR 137, vI l1, vI (iw (l2 + 1)), vI (iw (l3 + 1)), vI q5.1, vI q35.1, vI 1]) (st' := []) (g' := q50.2) k203_152 rfl rfl ?_
                    rfl
                  · refine q_s (pc' := 127) (ls' := [vR 137, vI l1, vI l2, vI l3, vI q5.1, vI q35.1, vI 1]) (st' := [vI 0, vI l2]) (g' := q50.2) k203_126 rfl rfl ?_
                    refine q_s (pc' := 147) (ls' := [vR 137, vI l1, vI l2, vI l3, vI q5.1, vI q35.1, vI 1]) (st' := [vI 0, vI l2]) (g' := q50.2) k203_127 rfl rfl ?_
                    refine q_s (pc' := 148) (ls' := [vR 137, vI l1, vI l2, vI l3, vI q5.1, vI q35.1, vI 1]) (st' := [vI (iw (l2 + 0))]) (g' := q50.2) k203_147 rfl rfl ?_
                    refine q_s (pc' := 149) (ls' := [vR 137, vI l1, vI (iw (l2 + 0)), vI l3, vI q5.1, vI q35.1, vI 1]) (st' := []) (g' := q50.2) k203_148 rfl rfl ?_
                    refine q_s (pc' := 152) (ls' := [vR 137, vI l1, vI (iw (l2 + 0)), vI (iw (l3 + 1)), vI q5.1, vI q35.1, vI 1]) (st' := []) (g' := q50.2) k203_149 rfl rfl ?_
                    refine q_s (pc' := 18) (ls' := [vR 137, vI l1, vI (iw (l2 + 0)), vI (iw (l3 + 1)), vI q5.1, vI q35.1, vI 1]) (st' := []) (g' := q50.2) k203_152 rfl rfl ?_
                    rfl
              · refine q_s (pc' := 105) (ls' := [vR 137, vI l1, vI l2, vI l3, vI q5.1, vI q35.1, vI 1]) (st' := [vI 1, vI l2]) (g' := q50.2) k203_103 rfl rfl ?_
                refine q_s (pc' := 108) (ls' := [vR 137, vI l1, vI l2, vI l3, vI q5.1, vI q35.1, vI 1]) (st' := [vI l2]) (g' := q50.2) k203_105 rfl rfl ?_
                refine q_s (pc' := 109) (ls' := [vR 137, vI l1, vI l2, vI l3, vI q5.1, vI q35.1, vI 1]) (st' := [vI 1, vI l2]) (g' := q50.2) k203_108 rfl rfl ?_
                refine q_s (pc' := 147) (ls' := [vR 137, vI l1, vI l2, vI l3, vI q5.1, vI q35.1, vI 1]) (st' := [vI 1, vI l2]) (g' := q50.2) k203_109 rfl rfl ?_
                refine q_s (pc' := 148) (ls' := [vR 137, vI l1, vI l2, vI l3, vI q5.1, vI q35.1, vI 1]) (st' := [vI (iw (l2 + 1))]) (g' := q50.2) k203_147 rfl rfl ?_
                refine q_s (pc' := 149) (ls' := [vR 137, vI l1, vI (iw (l2 + 1)), vI l3, vI q5.1, vI q35.1, vI 1]) (st' := []) (g' := q50.2) k203_148 rfl rfl ?_
                refine q_s (pc' := 152) (ls' := [vR 137, vI l1, vI (iw (l2 + 1)), vI (iw (l3 + 1)), vI q5.1, vI q35.1, vI 1]) (st' := []) (g' := q50.2) k203_149 rfl rfl ?_
                refine q_s (pc' := 18) (ls' := [vR 137, vI l1, vI (iw (l2 + 1)), vI (iw (l3 + 1)), vI q5.1, vI q35.1, vI 1]) (st' := []) (g' := q50.2) k203_152 rfl rfl ?_
                rfl
            · refine q_s (pc' := 88) (ls' := [vR 137, vI l1, vI l2, vI l3, vI q5.1, vI q35.1, vI 1]) (st' := [vI q35.1, vI l2]) (g' := q50.2) k203_86 rfl rfl ?_
              refine q_s (pc' := 89) (ls' := [vR 137, vI l1, vI l2, vI l3, vI q5.1, vI q35.1, vI 1]) (st' := [vR 137, vI q35.1, vI l2]) (g' := q50.2) k203_88 rfl rfl ?_
              refine q_getF (r := 143) (pc' := 92) k203_89 rfl rfl rfl rfl ?_
              refine q_s (pc' := 93) (ls' := [vR 137, vI l1, vI l2, vI l3, vI q5.1, vI q35.1, vI 1]) (st' := [vI l3, vR 143, vI q35.1, vI l2]) (g' := q50.2) k203_92 rfl rfl ?_
              refine q_iald (n := 16) (pc' := 94) rfl k203_93 rfl rfl (fun h63 => ?_)
              refine q_s (pc' := 95) (ls' := [vR 137, vI l1, vI l2, vI l3, vI q5.1, vI q35.1, vI 1]) (st' := [vI (iw (q35.1 * (q50.2 143 l3))), vI l2]) (g' := q50.2) k203_94 rfl rfl ?_
              refine q_s (pc' := 147) (ls' := [vR 137, vI l1, vI l2, vI l3, vI q5.1, vI q35.1, vI 1]) (st' := [vI (iw (q35.1 * (q50.2 143 l3))), vI l2]) (g' := q50.2) k203_95 rfl rfl ?_
              refine q_s (pc' := 148) (ls' := [vR 137, vI l1, vI l2, vI l3, vI q5.1, vI q35.1, vI 1]) (st' := [vI (iw (l2 + (iw (q35.1 * (q50.2 143 l3)))))]) (g' := q50.2) k203_147 rfl rfl ?_
              refine q_s (pc' := 149) (ls' := [vR 137, vI l1, vI (iw (l2 + (iw (q35.1 * (q50.2 143 l3))))), vI l3, vI q5.1, vI q35.1, vI 1]) (st' := []) (g' := q50.2) k203_148 rfl rfl ?_
              refine q_s (pc' := 152) (ls' := [vR 137, vI l1, vI (iw (l2 + (iw (q35.1 * (q50.2 143 l3))))), vI (iw (l3 + 1)), vI q5.1, vI q35.1, vI 1]) (st' := []) (g' := q50.2) k203_149 rfl rfl ?_
              refine q_s (pc' := 18) (ls' := [vR 137, vI l1, vI (iw (l2 + (iw (q35.1 * (q50.2 143 l3))))), vI (iw (l3 + 1)), vI q5.1, vI q35.1, vI 1]) (st' := []) (g' := q50.2) k203_152 rfl rfl ?_
              rfl
set_option maxHeartbeats 4000000 in
theorem jM_dearest_eq (L : Nat) (g : AMem) : jM_dearest L g = jM_dearest_8 L (-201) (-1) 0 vU g := by
  unfold jM_dearest
  refine q_s (pc' := 3) (ls' := [vR 137, vU, vU, vU, vU]) (st' := [vI (-201)]) (g' := g) k204_0 rfl rfl ?_
  refine q_s (pc' := 4) (ls' := [vR 137, vI (-201), vU, vU, vU]) (st' := []) (g' := g) k204_3 rfl rfl ?_
  refine q_s (pc' := 5) (ls' := [vR 137, vI (-201), vU, vU, vU]) (st' := [vI (-1)]) (g' := g) k204_4 rfl rfl ?_
  refine q_s (pc' := 6) (ls' := [vR 137, vI (-201), vI (-1), vU, vU]) (st' := []) (g' := g) k204_5 rfl rfl ?_
  refine q_s (pc' := 7) (ls' := [vR 137, vI (-201), vI (-1), vU, vU]) (st' := [vI 0]) (g' := g) k204_6 rfl rfl ?_
  refine q_s (pc' := 8) (ls' := [vR 137, vI (-201), vI (-1), vI 0, vU]) (st' := []) (g' := g) k204_7 rfl rfl ?_
  rfl
set_option maxHeartbeats 4000000 in
theorem jM_dearest_8_eq (L : Nat) (l1 : Int) (l2 : Int) (l3 : Int) (w4 : AVal) (g : AMem) : jM_dearest_8 L l1 l2 l3 w4 g = if g 137 2 ≤ l3 then (some (l1, g)) else ((jM_isClear L l3 g).bind (fun q2 => if q2.1 = 0 then (if (-1) ≤ l2 then (if (-1) ≤ l2 then (jM_dearest_8 L l1 l2 (iw (l3 + 1)) (vI (-1)) q2.2) else (jM_dearest_8 L l1 (-1) (iw (l3 + 1)) (vI (-1)) q2.2)) else (if (-1) ≤ l2 then (jM_dearest_8 L l3 l2 (iw (l3 + 1)) (vI (-1)) q2.2) else (jM_dearest_8 L l3 (-1) (iw (l3 + 1)) (vI (-1)) q2.2))) else ((jM_costBy L l3 (q2.2 137 3) q2.2).bind (fun q7 => if 0 ≤ l3 ∧ l3 < 16 then (if iw (q7.1 * (q7.2 143 l3)) ≤ l2 then (if iw (q7.1 * (q7.2 143 l3)) ≤ l2 then (jM_dearest_8 L l1 l2 (iw (l3 + 1)) (vI (iw (q7.1 * (q7.2 143 l3)))) q7.2) else (jM_dearest_8 L l1 (iw (q7.1 * (q7.2 143 l3))) (iw (l3 + 1)) (vI (iw (q7.1 * (q7.2 143 l3)))) q7.2)) else (if iw (q7.1 * (q7.2 143 l3)) ≤ l2 then (jM_dearest_8 L l3 l2 (iw (l3 + 1)) (vI (iw (q7.1 * (q7.2 143 l3)))) q7.2) else (jM_dearest_8 L l3 (iw (q7.1 * (q7.2 143 l3))) (iw (l3 + 1)) (vI (iw (q7.1 * (q7.2 143 l3)))) q7.2))) else none)))) := by
  unfold jM_dearest_8
  refine q_s (pc' := 9) (ls' := [vR 137, vI l1, vI l2, vI l3, w4]) (st' := [vI l3]) (g' := g) k204_8 rfl rfl ?_
  refine q_s (pc' := 10) (ls' := [vR 137, vI l1, vI l2, vI l3, w4]) (st' := [vR 137, vI l3]) (g' := g) k204_9 rfl rfl ?_
  refine q_getI (w := 2) (pc' := 13) k204_10 rfl rfl rfl rfl ?_
  refine q_ic (P := g 137 2 ≤ l3) (t := 77) (pc' := 16) k204_13 Iff.rfl rfl rfl (fun h1 => ?_) (fun h1 => ?_)
  · refine q_s (pc' := 78) (ls' := [vR 137, vI l1, vI l2, vI l3, w4]) (st' := [vI l1]) (g' := g) k204_77 rfl rfl ?_
    exact q_e k204_78 rfl rfl rfl
  · refine q_s (pc' := 17) (ls' := [vR 137, vI l1, vI l2, vI l3, w4]) (st' := [vR 137]) (g' := g) k204_16 rfl rfl ?_
    refine q_s (pc' := 18) (ls' := [vR 137, vI l1, vI l2, vI l3, w4]) (st' := [vI l3, vR 137]) (g' := g) k204_17 rfl rfl ?_
    refine q_callI (ls0 := [vR 137, vI l3, vU, vU]) (rest := []) (pc' := 21) rfl k204_18 rfl (hy4 rfl rfl rfl rfl) rfl rfl hq_167 rfl (fun q2 => ?_)
    refine q_if (P := q2.1 = 0) (t := 43) (pc' := 24) k204_21 Iff.rfl rfl rfl (fun h3 => ?_) (fun h3 => ?_)
    · refine q_s (pc' := 44) (ls' := [vR 137, vI l1, vI l2, vI l3, w4]) (st' := [vI (-1)]) (g' := q2.2) k204_43 rfl rfl ?_
      refine q_s (pc' := 46) (ls' := [vR 137, vI l1, vI l2, vI l3, vI (-1)]) (st' := []) (g' := q2.2) k204_44 rfl rfl ?_
      refine q_s (pc' := 48) (ls' := [vR 137, vI l1, vI l2, vI l3, vI (-1)]) (st' := [vI (-1)]) (g' := q2.2) k204_46 rfl rfl ?_
      refine q_s (pc' := 49) (ls' := [vR 137, vI l1, vI l2, vI l3, vI (-1)]) (st' := [vI l2, vI (-1)]) (g' := q2.2) k204_48 rfl rfl ?_
      refine q_ic (P := (-1) ≤ l2) (t := 56) (pc' := 52) k204_49 Iff.rfl rfl rfl (fun h4 => ?_) (fun h4 => ?_)
      · refine q_s (pc' := 57) (ls' := [vR 137, vI l1, vI l2, vI l3, vI (-1)]) (st' := [vI l1]) (g' := q2.2) k204_56 rfl rfl ?_
        refine q_s (pc' := 58) (ls' := [vR 137, vI l1, vI l2, vI l3, vI (-1)]) (st' := []) (g' := q2.2) k204_57 rfl rfl ?_
        refine q_s (pc' := 60) (ls' := [vR 137, vI l1, vI l2, vI l3, vI (-1)]) (st' := [vI (-1)]) (g' := q2.2) k204_58 rfl rfl ?_
        refine q_s (pc' := 61) (ls' := [vR 137, vI l1, vI l2, vI l3, vI (-1)]) (st' := [vI l2, vI (-1)]) (g' := q2.2) k204_60 rfl rfl ?_
        refine q_ic (P := (-1) ≤ l2) (t := 69) (pc' := 64) k204_61 Iff.rfl rfl rfl (fun h5 => ?_) (fun h5 => ?_)
        · refine q_s (pc' := 70) (ls' := [vR 137, vI l1, vI l2, vI l3, vI (-1)]) (st' := [vI l2]) (g' := q2.2) k204_69 rfl rfl ?_
          refine q_s (pc' := 71) (ls' := [vR 137, vI l1, vI l2, vI l3, vI (-1)]) (st' := []) (g' := q2.2) k204_70 rfl rfl ?_
          refine q_s (pc' := 74) (ls' := [vR 137, vI l1, vI l2, vI (iw (l3 + 1)), vI (-1)]) (st' := []) (g' := q2.2) k204_71 rfl rfl ?_
          refine q_s (pc' := 8) (ls' := [vR 137, vI l1, vI l2, vI (iw (l3 + 1)), vI (-1)]) (st' := []) (g' := q2.2) k204_74 rfl rfl ?_
          rfl
        · refine q_s (pc' := 66) (ls' := [vR 137, vI l1, vI l2, vI l3, vI (-1)]) (st' := [vI (-1)]) (g' := q2.2) k204_64 rfl rfl ?_
          refine q_s (pc' := 70) (ls' := [vR 137, vI l1, vI l2, vI l3, vI (-1)]) (st' := [vI (-1)]) (g' := q2.2) k204_66 rfl rfl ?_
          refine q_s (pc' := 71) (ls' := [vR 137, vI l1, vI (-1), vI l3, vI (-1)]) (st' := []) (g' := q2.2) k204_70 rfl rfl ?_
          refine q_s (pc' := 74) (ls' := [vR 137, vI l1, vI (-1), vI (iw (l3 + 1)), vI (-1)]) (st' := []) (g' := q2.2) k204_71 rfl rfl ?_
          refine q_s (pc' := 8) (ls' := [vR 137, vI l1, vI (-1), vI (iw (l3 + 1)), vI (-1)]) (st' := []) (g' := q2.2) k204_74 rfl rfl ?_
          rfl
      · refine q_s (pc' := 53) (ls' := [vR 137, vI l1, vI l2, vI l3, vI (-1)]) (st' := [vI l3]) (g' := q2.2) k204_52 rfl rfl ?_
        refine q_s (pc' := 57) (ls' := [vR 137, vI l1, vI l2, vI l3, vI (-1)]) (st' := [vI l3]) (g' := q2.2) k204_53 rfl rfl ?_
        refine q_s (pc' := 58) (ls' := [vR 137, vI l3, vI l2, vI l3, vI (-1)]) (st' := []) (g' := q2.2) k204_57 rfl rfl ?_
        refine q_s (pc' := 60) (ls' := [vR 137, vI l3, vI l2, vI l3, vI (-1)]) (st' := [vI (-1)]) (g' := q2.2) k204_58 rfl rfl ?_
        refine q_s (pc' := 61) (ls' := [vR 137, vI l3, vI l2, vI l3, vI (-1)]) (st' := [vI l2, vI (-1)]) (g' := q2.2) k204_60 rfl rfl ?_
        refine q_ic (P := (-1) ≤ l2) (t := 69) (pc' := 64) k204_61 Iff.rfl rfl rfl (fun h6 => ?_) (fun h6 => ?_)
        · refine q_s (pc' := 70) (ls' := [vR 137, vI l3, vI l2, vI l3, vI (-1)]) (st' := [vI l2]) (g' := q2.2) k204_69 rfl rfl ?_
          refine q_s (pc' := 71) (ls' := [vR 137, vI l3, vI l2, vI l3, vI (-1)]) (st' := []) (g' := q2.2) k204_70 rfl rfl ?_
          refine q_s (pc' := 74) (ls' := [vR 137, vI l3, vI l2, vI (iw (l3 + 1)), vI (-1)]) (st' := []) (g' := q2.2) k204_71 rfl rfl ?_
          refine q_s (pc' := 8) (ls' := [vR 137, vI l3, vI l2, vI (iw (l3 + 1)), vI (-1)]) (st' := []) (g' := q2.2) k204_74 rfl rfl ?_
          rfl
        · refine q_s (pc' := 66) (ls' := [vR 137, vI l3, vI l2, vI l3, vI (-1)]) (st' := [vI (-1)]) (g' := q2.2) k204_64 rfl rfl ?_
          refine q_s (pc' := 70) (ls' := [vR 137, vI l3, vI l2, vI l3, vI (-1)]) (st' := [vI (-1)]) (g' := q2.2) k204_66 rfl rfl ?_
          refine q_s (pc' := 71) (ls' := [vR 137, vI l3, vI (-1), vI l3, vI (-1)]) (st' := []) (g' := q2.2) k204_70 rfl rfl ?_
          refine q_s (pc' := 74) (ls' := [vR 137, vI l3, vI (-1), vI (iw (l3 + 1)), vI (-1)]) (st' := []) (g' := q2.2) k204_71 rfl rfl ?_
          refine q_s (pc' := 8) (ls' := [vR 137, vI l3, vI (-1), vI (iw (l3 + 1)), vI (-1)]) (st' := []) (g' := q2.2) k204_74 rfl rfl ?_
          rfl
    · refine q_s (pc' := 25) (ls' := [vR 137, vI l1, vI l2, vI l3, w4]) (st' := [vR 137]) (g' := q2.2) k204_24 rfl rfl ?_
      refine q_s (pc' := 26) (ls' := [vR 137, vI l1, vI l2, vI l3, w4]) (st' := [vI l3, vR 137]) (g' := q2.2) k204_25 rfl rfl ?_
      refine q_s (pc' := 27) (ls' := [vR 137, vI l1, vI l2, vI l3, w4]) (st' := [vR 137, vI l3, vR 137]) (g' := q2.2) k204_26 rfl rfl ?_
      refine q_getI (w := 3) (pc' := 30) k204_27 rfl rfl rfl rfl ?_
      refine q_callI (ls0 := [vR 137, vI l3, vI (q2.2 137 3), vU, vU, vU]) (rest := []) (pc' := 33) rfl k204_30 rfl (hy4 rfl rfl rfl rfl) rfl rfl hq_184 rfl (fun q7 => ?_)
      refine q_s (pc' := 34) (ls' := [vR 137, vI l1, vI l2, vI l3, w4]) (st' := [vR 137, vI q7.1]) (g' := q7.2) k204_33 rfl rfl ?_
      refine q_getF (r := 143) (pc' := 37) k204_34 rfl rfl rfl rfl ?_
      refine q_s (pc' := 38) (ls' := [vR 137, vI l1, vI l2, vI l3, w4]) (st' := [vI l3, vR 143, vI q7.1]) (g' := q7.2) k204_37 rfl rfl ?_
      refine q_iald (n := 16) (pc' := 39) rfl k204_38 rfl rfl (fun h8 => ?_)
      refine q_s (pc' := 40) (ls' := [vR 137, vI l1, vI l2, vI l3, w4]) (st' := [vI (iw (q7.1 * (q7.2 143 l3)))]) (g' := q7.2) k204_39 rfl rfl ?_
      refine q_s (pc' := 44) (ls' := [vR 137, vI l1, vI l2, vI l3, w4]) (st' := [vI (iw (q7.1 * (q7.2 143 l3)))]) (g' := q7.2) k204_40 rfl rfl ?_
      refine q_s (pc' := 46) (ls' := [vR 137, vI l1, vI l2, vI l3, vI (iw (q7.1 * (q7.2 143 l3)))]) (st' := []) (g' := q7.2) k204_44 rfl rfl ?_
      refine q_s (pc' := 48) (ls' := [vR 137, vI l1, vI l2, vI l3, vI (iw (q7.1 * (q7.2 143 l3)))]) (st' := [vI (iw (q7.1 * (q7.2 143 l3)))]) (g' := q7.2) k204_46 rfl rfl ?_
      refine q_s (pc' := 49) (ls' := [vR 137, vI l1, vI l2, vI l3, vI (iw (q7.1 * (q7.2 143 l3)))]) (st' := [vI l2, vI (iw (q7.1 * (q7.2 143 l3)))]) (g' := q7.2) k204_48 rfl rfl ?_
      refine q_ic (P := iw (q7.1 * (q7.2 143 l3)) ≤ l2) (t := 56) (pc' := 52) k204_49 Iff.rfl rfl rfl (fun h9 => ?_) (fun h9 => ?_)
      · refine q_s (pc' := 57) (ls' := [vR 137, vI l1, vI l2, vI l3, vI (iw (q7.1 * (q7.2 143 l3)))]) (st' := [vI l1]) (g' := q7.2) k204_56 rfl rfl ?_
        refine q_s (pc' := 58) (ls' := [vR 137, vI l1, vI l2, vI l3, vI (iw (q7.1 * (q7.2 143 l3)))]) (st' := []) (g' := q7.2) k204_57 rfl rfl ?_
        refine q_s (pc' := 60) (ls' := [vR 137, vI l1, vI l2, vI l3, vI (iw (q7.1 * (q7.2 143 l3)))]) (st' := [vI (iw (q7.1 * (q7.2 143 l3)))]) (g' := q7.2) k204_58 rfl rfl ?_
        refine q_s (pc' := 61) (ls' := [vR 137, vI l1, vI l2, vI l3, vI (iw (q7.1 * (q7.2 143 l3)))]) (st' := [vI l2, vI (iw (q7.1 * (q7.2 143 l3)))]) (g' := q7.2) k204_60 rfl rfl ?_
        refine q_ic (P := iw (q7.1 * (q7.2 143 l3)) ≤ l2) (t := 69) (pc' := 64) k204_61 Iff.rfl rfl rfl (fun h10 => ?_) (fun h10 => ?_)
        · refine q_s (pc' := 70) (ls' := [vR 137, vI l1, vI l2, vI l3, vI (iw (q7.1 * (q7.2 143 l3)))]) (st' := [vI l2]) (g' := q7.2) k204_69 rfl rfl ?_
          refine q_s (pc' := 71) (ls' := [vR 137, vI l1, vI l2, vI l3, vI (iw (q7.1 * (q7.2 143 l3)))]) (st' := []) (g' := q7.2) k204_70 rfl rfl ?_
          refine q_s (pc' := 74) (ls' := [vR 137, vI l1, vI l2, vI (iw (l3 + 1)), vI (iw (q7.1 * (q7.2 143 l3)))]) (st' := []) (g' := q7.2) k204_71 rfl rfl ?_
          refine q_s (pc' := 8) (ls' := [vR 137, vI l1, vI l2, vI (iw (l3 + 1)), vI (iw (q7.1 * (q7.2 143 l3)))]) (st' := []) (g' := q7.2) k204_74 rfl rfl ?_
          rfl
        · refine q_s (pc' := 66) (ls' := [vR 137, vI l1, vI l2, vI l3, vI (iw (q7.1 * (q7.2 143 l3)))]) (st' := [vI (iw (q7.1 * (q7.2 143 l3)))]) (g' := q7.2) k204_64 rfl rfl ?_
          refine q_s (pc' := 70) (ls' := [vR 137, vI l1, vI l2, vI l3, vI (iw (q7.1 * (q7.2 143 l3)))]) (st' := [vI (iw (q7.1 * (q7.2 143 l3)))]) (g' := q7.2) k204_66 rfl rfl ?_
          refine q_s (pc' := 71) (ls' := [vR 137, vI l1, vI (iw (q7.1 * (q7.2 143 l3))), vI l3, vI (iw (q7.1 * (q7.2 143 l3)))]) (st' := []) (g' := q7.2) k204_70 rfl rfl ?_
          refine q_s (pc' := 74) (ls' := [vR 137, vI l1, vI (iw (q7.1 * (q7.2 143 l3))), vI (iw (l3 + 1)), vI (iw (q7.1 * (q7.2 143 l3)))]) (st' := []) (g' := q7.2) k204_71 rfl rfl ?_
          refine q_s (pc' := 8) (ls' := [vR 137, vI l1, vI (iw (q7.1 * (q7.2 143 l3))), vI (iw (l3 + 1)), vI (iw (q7.1 * (q7.2 143 l3)))]) (st' := []) (g' := q7.2) k204_74 rfl rfl ?_
          rfl
      · refine q_s (pc' := 53) (ls' := [vR 137, vI l1, vI l2, vI l3, vI (iw (q7.1 * (q7.2 143 l3)))]) (st' := [vI l3]) (g' := q7.2) k204_52 rfl rfl ?_
        refine q_s (pc' := 57) (ls' := [vR 137, vI l1, vI l2, vI l3, vI (iw (q7.1 * (q7.2 143 l3)))]) (st' := [vI l3]) (g' := q7.2) k204_53 rfl rfl ?_
        refine q_s (pc' := 58) (ls' := [vR 137, vI l3, vI l2, vI l3, vI (iw (q7.1 * (q7.2 143 l3)))]) (st' := []) (g' := q7.2) k204_57 rfl rfl ?_
        refine q_s (pc' := 60) (ls' := [vR 137, vI l3, vI l2, vI l3, vI (iw (q7.1 * (q7.2 143 l3)))]) (st' := [vI (iw (q7.1 * (q7.2 143 l3)))]) (g' := q7.2) k204_58 rfl rfl ?_
        refine q_s (pc' := 61) (ls' := [vR 137, vI l3, vI l2, vI l3, vI (iw (q7.1 * (q7.2 143 l3)))]) (st' := [vI l2, vI (iw (q7.1 * (q7.2 143 l3)))]) (g' := q7.2) k204_60 rfl rfl ?_
        refine q_ic (P := iw (q7.1 * (q7.2 143 l3)) ≤ l2) (t := 69) (pc' := 64) k204_61 Iff.rfl rfl rfl (fun h11 => ?_) (fun h11 => ?_)
        · refine q_s (pc' := 70) (ls' := [vR 137, vI l3, vI l2, vI l3, vI (iw (q7.1 * (q7.2 143 l3)))]) (st' := [vI l2]) (g' := q7.2) k204_69 rfl rfl ?_
          refine q_s (pc' := 71) (ls' := [vR 137, vI l3, vI l2, vI l3, vI (iw (q7.1 * (q7.2 143 l3)))]) (st' := []) (g' := q7.2) k204_70 rfl rfl ?_
          refine q_s (pc' := 74) (ls' := [vR 137, vI l3, vI l2, vI (iw (l3 + 1)), vI (iw (q7.1 * (q7.2 143 l3)))]) (st' := []) (g' := q7.2) k204_71 rfl rfl ?_
          refine q_s (pc' := 8) (ls' := [vR 137, vI l3, vI l2, vI (iw (l3 + 1)), vI (iw (q7.1 * (q7.2 143 l3)))]) (st' := []) (g' := q7.2) k204_74 rfl rfl ?_
          rfl
        · refine q_s (pc' := 66) (ls' := [vR 137, vI l3, vI l2, vI l3, vI (iw (q7.1 * (q7.2 143 l3)))]) (st' := [vI (iw (q7.1 * (q7.2 143 l3)))]) (g' := q7.2) k204_64 rfl rfl ?_
          refine q_s (pc' := 70) (ls' := [vR 137, vI l3, vI l2, vI l3, vI (iw (q7.1 * (q7.2 143 l3)))]) (st' := [vI (iw (q7.1 * (q7.2 143 l3)))]) (g' := q7.2) k204_66 rfl rfl ?_
          refine q_s (pc' := 71) (ls' := [vR 137, vI l3, vI (iw (q7.1 * (q7.2 143 l3))), vI l3, vI (iw (q7.1 * (q7.2 143 l3)))]) (st' := []) (g' := q7.2) k204_70 rfl rfl ?_
          refine q_s (pc' := 74) (ls' := [vR 137, vI l3, vI (iw (q7.1 * (q7.2 143 l3))), vI (iw (l3 + 1)), vI (iw (q7.1 * (q7.2 143 l3)))]) (st' := []) (g' := q7.2) k204_71 rfl rfl ?_
          refine q_s (pc' := 8) (ls' := [vR 137, vI l3, vI (iw (q7.1 * (q7.2 143 l3))), vI (iw (l3 + 1)), vI (iw (q7.1 * (q7.2 143 l3)))]) (st' := []) (g' := q7.2) k204_74 rfl rfl ?_
          rfl
set_option maxHeartbeats 4000000 in
theorem jM_reach_eq (L : Nat) (a1 : Int) (a2 : Int) (g : AMem) : jM_reach L a1 a2 g = (jM_isBlock L a1 g).bind (fun q1 => if q1.1 = 0 then ((jM_bad L q1.2).bind (fun q3 => some (q3.1, q3.2))) else ((jM_isBlock L a2 q1.2).bind (fun q4 => if q4.1 ≠ 0 then (jM_reach_23 L a1 a2 0 q4.2) else ((jM_bad L q4.2).bind (fun q6 => some (q6.1, q6.2)))))) := by
  unfold jM_reach
  refine q_s (pc' := 1) (ls' := [vR 137, vI a1, vI a2, vU, vU, vU]) (st' := [vR 137]) (g' := g) k205_0 rfl rfl ?_
  refine q_s (pc' := 2) (ls' := [vR 137, vI a1, vI a2, vU, vU, vU]) (st' := [vI a1, vR 137]) (g' := g) k205_1 rfl rfl ?_
  refine q_callI (ls0 := [vR 137, vI a1]) (rest := []) (pc' := 5) rfl k205_2 rfl (hy4 rfl rfl rfl rfl) rfl rfl hq_145 rfl (fun q1 => ?_)
  refine q_if (P := q1.1 = 0) (t := 16) (pc' := 8) k205_5 Iff.rfl rfl rfl (fun h2 => ?_) (fun h2 => ?_)
  · refine q_s (pc' := 17) (ls' := [vR 137, vI a1, vI a2, vU, vU, vU]) (st' := [vR 137]) (g' := q1.2) k205_16 rfl rfl ?_
    refine q_callI (ls0 := [vR 137]) (rest := []) (pc' := 20) rfl k205_17 rfl (hy4 rfl rfl rfl rfl) rfl rfl hq_135 rfl (fun q3 => ?_)
    exact q_e k205_20 rfl rfl rfl
  · refine q_s (pc' := 9) (ls' := [vR 137, vI a1, vI a2, vU, vU, vU]) (st' := [vR 137]) (g' := q1.2) k205_8 rfl rfl ?_
    refine q_s (pc' := 10) (ls' := [vR 137, vI a1, vI a2, vU, vU, vU]) (st' := [vI a2, vR 137]) (g' := q1.2) k205_9 rfl rfl ?_
    refine q_callI (ls0 := [vR 137, vI a2]) (rest := []) (pc' := 13) rfl k205_10 rfl (hy4 rfl rfl rfl rfl) rfl rfl hq_145 rfl (fun q4 => ?_)
    refine q_if (P := q4.1 ≠ 0) (t := 21) (pc' := 16) k205_13 Iff.rfl rfl rfl (fun h5 => ?_) (fun h5 => ?_)
    · refine q_s (pc' := 22) (ls' := [vR 137, vI a1, vI a2, vU, vU, vU]) (st' := [vI 0]) (g' := q4.2) k205_21 rfl rfl ?_
      refine q_s (pc' := 23) (ls' := [vR 137, vI a1, vI a2, vI 0, vU, vU]) (st' := []) (g' := q4.2) k205_22 rfl rfl ?_
      rfl
    · refine q_s (pc' := 17) (ls' := [vR 137, vI a1, vI a2, vU, vU, vU]) (st' := [vR 137]) (g' := q4.2) k205_16 rfl rfl ?_
      refine q_callI (ls0 := [vR 137]) (rest := []) (pc' := 20) rfl k205_17 rfl (hy4 rfl rfl rfl rfl) rfl rfl hq_135 rfl (fun q6 => ?_)
      exact q_e k205_20 rfl rfl rfl
set_option maxHeartbeats 4000000 in
theorem jM_reach_23_eq (L : Nat) (l1 : Int) (l2 : Int) (l3 : Int) (g : AMem) : jM_reach_23 L l1 l2 l3 g = if g 137 1 ≤ l3 then (jM_reach_56 L l1 l2 0 vU vU g) else (if l3 ≠ l1 then (if 0 ≤ l3 ∧ l3 < 10 then (jM_reach_23 L l1 l2 (iw (l3 + 1)) (up g 155 l3 1048576)) else none) else (if 0 ≤ l3 ∧ l3 < 10 then (jM_reach_23 L l1 l2 (iw (l3 + 1)) (up g 155 l3 0)) else none)) := by
  unfold jM_reach_23
  refine q_s (pc' := 24) (ls' := [vR 137, vI l1, vI l2, vI l3, vU, vU]) (st' := [vI l3]) (g' := g) k205_23 rfl rfl ?_
  refine q_s (pc' := 25) (ls' := [vR 137, vI l1, vI l2, vI l3, vU, vU]) (st' := [vR 137, vI l3]) (g' := g) k205_24 rfl rfl ?_
  refine q_getI (w := 1) (pc' := 28) k205_25 rfl rfl rfl rfl ?_
  refine q_ic (P := g 137 1 ≤ l3) (t := 54) (pc' := 31) k205_28 Iff.rfl rfl rfl (fun h7 => ?_) (fun h7 => ?_)
  · refine q_s (pc' := 55) (ls' := [vR 137, vI l1, vI l2, vI l3, vU, vU]) (st' := [vI 0]) (g' := g) k205_54 rfl rfl ?_
    refine q_s (pc' := 56) (ls' := [vR 137, vI l1, vI l2, vI 0, vU, vU]) (st' := []) (g' := g) k205_55 rfl rfl ?_
    rfl
  · refine q_s (pc' := 32) (ls' := [vR 137, vI l1, vI l2, vI l3, vU, vU]) (st' := [vR 137]) (g' := g) k205_31 rfl rfl ?_
    refine q_getF (r := 155) (pc' := 35) k205_32 rfl rfl rfl rfl ?_
    refine q_s (pc' := 36) (ls' := [vR 137, vI l1, vI l2, vI l3, vU, vU]) (st' := [vI l3, vR 155]) (g' := g) k205_35 rfl rfl ?_
    refine q_s (pc' := 37) (ls' := [vR 137, vI l1, vI l2, vI l3, vU, vU]) (st' := [vI l3, vI l3, vR 155]) (g' := g) k205_36 rfl rfl ?_
    refine q_s (pc' := 38) (ls' := [vR 137, vI l1, vI l2, vI l3, vU, vU]) (st' := [vI l1, vI l3, vI l3, vR 155]) (g' := g) k205_37 rfl rfl ?_
    refine q_ic (P := l3 ≠ l1) (t := 45) (pc' := 41) k205_38 Iff.rfl rfl rfl (fun h8 => ?_) (fun h8 => ?_)
    · refine q_s (pc' := 47) (ls' := [vR 137, vI l1, vI l2, vI l3, vU, vU]) (st' := [vI 1048576, vI l3, vR 155]) (g' := g) k205_45 rfl rfl ?_
      refine q_iast (n := 10) (pc' := 48) rfl k205_47 rfl (by decide) rfl (fun h9 => ?_)
      refine q_s (pc' := 51) (ls' := [vR 137, vI l1, vI l2, vI (iw (l3 + 1)), vU, vU]) (st' := []) (g' := up g 155 l3 1048576) k205_48 rfl rfl ?_
      refine q_s (pc' := 23) (ls' := [vR 137, vI l1, vI l2, vI (iw (l3 + 1)), vU, vU]) (st' := []) (g' := up g 155 l3 1048576) k205_51 rfl rfl ?_
      rfl
    · refine q_s (pc' := 42) (ls' := [vR 137, vI l1, vI l2, vI l3, vU, vU]) (st' := [vI 0, vI l3, vR 155]) (g' := g) k205_41 rfl rfl ?_
      refine q_s (pc' := 47) (ls' := [vR 137, vI l1, vI l2, vI l3, vU, vU]) (st' := [vI 0, vI l3, vR 155]) (g' := g) k205_42 rfl rfl ?_
      refine q_iast (n := 10) (pc' := 48) rfl k205_47 rfl (by decide) rfl (fun h10 => ?_)
      refine q_s (pc' := 51) (ls' := [vR 137, vI l1, vI l2, vI (iw (l3 + 1)), vU, vU]) (st' := []) (g' := up g 155 l3 0) k205_48 rfl rfl ?_
      refine q_s (pc' := 23) (ls' := [vR 137, vI l1, vI l2, vI (iw (l3 + 1)), vU, vU]) (st' := []) (g' := up g 155 l3 0) k205_51 rfl rfl ?_
      rfl
set_option maxHeartbeats 4000000 in
theorem jM_reach_56_eq (L : Nat) (l1 : Int) (l2 : Int) (l3 : Int) (w4 : AVal) (w5 : AVal) (g : AMem) : jM_reach_56 L l1 l2 l3 w4 w5 g = if g 137 1 ≤ l3 then (if 0 ≤ l2 ∧ l2 < 10 then (if g 155 l2 < 1048576 then (if 0 ≤ l2 ∧ l2 < 10 then (some (g 155 l2, g)) else none) else (some ((-201), g))) else none) else (jM_reach_67 L l1 l2 l3 0 w5 g) := by
  unfold jM_reach_56
  refine q_s (pc' := 57) (ls' := [vR 137, vI l1, vI l2, vI l3, w4, w5]) (st' := [vI l3]) (g' := g) k205_56 rfl rfl ?_
  refine q_s (pc' := 58) (ls' := [vR 137, vI l1, vI l2, vI l3, w4, w5]) (st' := [vR 137, vI l3]) (g' := g) k205_57 rfl rfl ?_
  refine q_getI (w := 1) (pc' := 61) k205_58 rfl rfl rfl rfl ?_
  refine q_ic (P := g 137 1 ≤ l3) (t := 150) (pc' := 64) k205_61 Iff.rfl rfl rfl (fun h11 => ?_) (fun h11 => ?_)
  · refine q_s (pc' := 151) (ls' := [vR 137, vI l1, vI l2, vI l3, w4, w5]) (st' := [vR 137]) (g' := g) k205_150 rfl rfl ?_
    refine q_getF (r := 155) (pc' := 154) k205_151 rfl rfl rfl rfl ?_
    refine q_s (pc' := 155) (ls' := [vR 137, vI l1, vI l2, vI l3, w4, w5]) (st' := [vI l2, vR 155]) (g' := g) k205_154 rfl rfl ?_
    refine q_iald (n := 10) (pc' := 156) rfl k205_155 rfl rfl (fun h12 => ?_)
    refine q_s (pc' := 158) (ls' := [vR 137, vI l1, vI l2, vI l3, w4, w5]) (st' := [vI 1048576, vI (g 155 l2)]) (g' := g) k205_156 rfl rfl ?_
    refine q_ic (P := g 155 l2 < 1048576) (t := 167) (pc' := 161) k205_158 Iff.rfl rfl rfl (fun h13 => ?_) (fun h13 => ?_)
    · refine q_s (pc' := 168) (ls' := [vR 137, vI l1, vI l2, vI l3, w4, w5]) (st' := [vR 137]) (g' := g) k205_167 rfl rfl ?_
      refine q_getF (r := 155) (pc' := 171) k205_168 rfl rfl rfl rfl ?_
      refine q_s (pc' := 172) (ls' := [vR 137, vI l1, vI l2, vI l3, w4, w5]) (st' := [vI l2, vR 155]) (g' := g) k205_171 rfl rfl ?_
      refine q_iald (n := 10) (pc' := 173) rfl k205_172 rfl rfl (fun h14 => ?_)
      exact q_e k205_173 rfl rfl rfl
    · refine q_s (pc' := 164) (ls' := [vR 137, vI l1, vI l2, vI l3, w4, w5]) (st' := [vI (-201)]) (g' := g) k205_161 rfl rfl ?_
      refine q_s (pc' := 173) (ls' := [vR 137, vI l1, vI l2, vI l3, w4, w5]) (st' := [vI (-201)]) (g' := g) k205_164 rfl rfl ?_
      exact q_e k205_173 rfl rfl rfl
  · refine q_s (pc' := 65) (ls' := [vR 137, vI l1, vI l2, vI l3, w4, w5]) (st' := [vI 0]) (g' := g) k205_64 rfl rfl ?_
    refine q_s (pc' := 67) (ls' := [vR 137, vI l1, vI l2, vI l3, vI 0, w5]) (st' := []) (g' := g) k205_65 rfl rfl ?_
    rfl
set_option maxHeartbeats 4000000 in
theorem jM_reach_67_eq (L : Nat) (l1 : Int) (l2 : Int) (l3 : Int) (l4 : Int) (w5 : AVal) (g : AMem) : jM_reach_67 L l1 l2 l3 l4 w5 g = if g 137 2 ≤ l4 then (jM_reach_56 L l1 l2 (iw (l3 + 1)) (vI l4) w5 g) else (if 0 ≤ l4 ∧ l4 < 16 then (if 0 ≤ g 141 l4 ∧ g 141 l4 < 10 then (if 0 ≤ l4 ∧ l4 < 16 then (if 0 ≤ l4 ∧ l4 < 16 then (if 0 ≤ g 142 l4 ∧ g 142 l4 < 10 then (if g 155 (g 142 l4) ≤ iw ((g 155 (g 141 l4)) + 1) then (if 0 ≤ l4 ∧ l4 < 16 then (if 0 ≤ g 142 l4 ∧ g 142 l4 < 10 then (if 0 ≤ g 142 l4 ∧ g 142 l4 < 10 then (jM_reach_67 L l1 l2 l3 (iw (l4 + 1)) (vI (iw ((g 155 (g 141 l4)) + 1))) (up g 155 (g 142 l4) (g 155 (g 142 l4)))) else none) else none) else none) else (if 0 ≤ g 142 l4 ∧ g 142 l4 < 10 then (jM_reach_67 L l1 l2 l3 (iw (l4 + 1)) (vI (iw ((g 155 (g 141 l4)) + 1))) (up g 155 (g 142 l4) (iw ((g 155 (g 141 l4)) + 1)))) else none)) else none) else none) else none) else none) else none) := by
  unfold jM_reach_67
  refine q_s (pc' := 69) (ls' := [vR 137, vI l1, vI l2, vI l3, vI l4, w5]) (st' := [vI l4]) (g' := g) k205_67 rfl rfl ?_
  refine q_s (pc' := 70) (ls' := [vR 137, vI l1, vI l2, vI l3, vI l4, w5]) (st' := [vR 137, vI l4]) (g' := g) k205_69 rfl rfl ?_
  refine q_getI (w := 2) (pc' := 73) k205_70 rfl rfl rfl rfl ?_
  refine q_ic (P := g 137 2 ≤ l4) (t := 144) (pc' := 76) k205_73 Iff.rfl rfl rfl (fun h15 => ?_) (fun h15 => ?_)
  · refine q_s (pc' := 147) (ls' := [vR 137, vI l1, vI l2, vI (iw (l3 + 1)), vI l4, w5]) (st' := []) (g' := g) k205_144 rfl rfl ?_
    refine q_s (pc' := 56) (ls' := [vR 137, vI l1, vI l2, vI (iw (l3 + 1)), vI l4, w5]) (st' := []) (g' := g) k205_147 rfl rfl ?_
    rfl
  · refine q_s (pc' := 77) (ls' := [vR 137, vI l1, vI l2, vI l3, vI l4, w5]) (st' := [vR 137]) (g' := g) k205_76 rfl rfl ?_
    refine q_getF (r := 155) (pc' := 80) k205_77 rfl rfl rfl rfl ?_
    refine q_s (pc' := 81) (ls' := [vR 137, vI l1, vI l2, vI l3, vI l4, w5]) (st' := [vR 137, vR 155]) (g' := g) k205_80 rfl rfl ?_
    refine q_getF (r := 141) (pc' := 84) k205_81 rfl rfl rfl rfl ?_
    refine q_s (pc' := 86) (ls' := [vR 137, vI l1, vI l2, vI l3, vI l4, w5]) (st' := [vI l4, vR 141, vR 155]) (g' := g) k205_84 rfl rfl ?_
    refine q_iald (n := 16) (pc' := 87) rfl k205_86 rfl rfl (fun h16 => ?_)
    refine q_iald (n := 10) (pc' := 88) rfl k205_87 rfl rfl (fun h17 => ?_)
    refine q_s (pc' := 89) (ls' := [vR 137, vI l1, vI l2, vI l3, vI l4, w5]) (st' := [vI 1, vI (g 155 (g 141 l4))]) (g' := g) k205_88 rfl rfl ?_
    refine q_s (pc' := 90) (ls' := [vR 137, vI l1, vI l2, vI l3, vI l4, w5]) (st' := [vI (iw ((g 155 (g 141 l4)) + 1))]) (g' := g) k205_89 rfl rfl ?_
    refine q_s (pc' := 92) (ls' := [vR 137, vI l1, vI l2, vI l3, vI l4, vI (iw ((g 155 (g 141 l4)) + 1))]) (st' := []) (g' := g) k205_90 rfl rfl ?_
    refine q_s (pc' := 93) (ls' := [vR 137, vI l1, vI l2, vI l3, vI l4, vI (iw ((g 155 (g 141 l4)) + 1))]) (st' := [vR 137]) (g' := g) k205_92 rfl rfl ?_
    refine q_getF (r := 155) (pc' := 96) k205_93 rfl rfl rfl rfl ?_
    refine q_s (pc' := 97) (ls' := [vR 137, vI l1, vI l2, vI l3, vI l4, vI (iw ((g 155 (g 141 l4)) + 1))]) (st' := [vR 137, vR 155]) (g' := g) k205_96 rfl rfl ?_
    refine q_getF (r := 142) (pc' := 100) k205_97 rfl rfl rfl rfl ?_
    refine q_s (pc' := 102) (ls' := [vR 137, vI l1, vI l2, vI l3, vI l4, vI (iw ((g 155 (g 141 l4)) + 1))]) (st' := [vI l4, vR 142, vR 155]) (g' := g) k205_100 rfl rfl ?_
    refine q_iald (n := 16) (pc' := 103) rfl k205_102 rfl rfl (fun h18 => ?_)
    refine q_s (pc' := 105) (ls' := [vR 137, vI l1, vI l2, vI l3, vI l4, vI (iw ((g 155 (g 141 l4)) + 1))]) (st' := [vI (iw ((g 155 (g 141 l4)) + 1)), vI (g 142 l4), vR 155]) (g' := g) k205_103 rfl rfl ?_
    refine q_s (pc' := 106) (ls' := [vR 137, vI l1, vI l2, vI l3, vI l4, vI (iw ((g 155 (g 141 l4)) + 1))]) (st' := [vR 137, vI (iw ((g 155 (g 141 l4)) + 1)), vI (g 142 l4), vR 155]) (g' := g) k205_105 rfl rfl ?_
    refine q_getF (r := 155) (pc' := 109) k205_106 rfl rfl rfl rfl ?_
    refine q_s (pc' := 110) (ls' := [vR 137, vI l1, vI l2, vI l3, vI l4, vI (iw ((g 155 (g 141 l4)) + 1))]) (st' := [vR 137, vR 155, vI (iw ((g 155 (g 141 l4)) + 1)), vI (g 142 l4), vR 155]) (g' := g) k205_109 rfl rfl ?_
    refine q_getF (r := 142) (pc' := 113) k205_110 rfl rfl rfl rfl ?_
    refine q_s (pc' := 115) (ls' := [vR 137, vI l1, vI l2, vI l3, vI l4, vI (iw ((g 155 (g 141 l4)) + 1))]) (st' := [vI l4, vR 142, vR 155, vI (iw ((g 155 (g 141 l4)) + 1)), vI (g 142 l4), vR 155]) (g' := g) k205_113 rfl rfl ?_
    refine q_iald (n := 16) (pc' := 116) rfl k205_115 rfl rfl (fun h19 => ?_)
    refine q_iald (n := 10) (pc' := 117) rfl k205_116 rfl rfl (fun h20 => ?_)
    refine q_ic (P := g 155 (g 142 l4) ≤ iw ((g 155 (g 141 l4)) + 1)) (t := 125) (pc' := 120) k205_117 Iff.rfl rfl rfl (fun h21 => ?_) (fun h21 => ?_)
    · refine q_s (pc' := 126) (ls' := [vR 137, vI l1, vI l2, vI l3, vI l4, vI (iw ((g 155 (g 141 l4)) + 1))]) (st' := [vR 137, vI (g 142 l4), vR 155]) (g' := g) k205_125 rfl rfl ?_
      refine q_getF (r := 155) (pc' := 129) k205_126 rfl rfl rfl rfl ?_
      refine q_s (pc' := 130) (ls' := [vR 137, vI l1, vI l2, vI l3, vI l4, vI (iw ((g 155 (g 141 l4)) + 1))]) (st' := [vR 137, vR 155, vI (g 142 l4), vR 155]) (g' := g) k205_129 rfl rfl ?_
      refine q_getF (r := 142) (pc' := 133) k205_130 rfl rfl rfl rfl ?_
      refine q_s (pc' := 135) (ls' := [vR 137, vI l1, vI l2, vI l3, vI l4, vI (iw ((g 155 (g 141 l4)) + 1))]) (st' := [vI l4, vR 142, vR 155, vI (g 142 l4), vR 155]) (g' := g) k205_133 rfl rfl ?_
      refine q_iald (n := 16) (pc' := 136) rfl k205_135 rfl rfl (fun h22 => ?_)
      refine q_iald (n := 10) (pc' := 137) rfl k205_136 rfl rfl (fun h23 => ?_)
      refine q_iast (n := 10) (pc' := 138) rfl k205_137 rfl (by decide) rfl (fun h24 => ?_)
      refine q_s (pc' := 141) (ls' := [vR 137, vI l1, vI l2, vI l3, vI (iw (l4 + 1)), vI (iw ((g 155 (g 141 l4)) + 1))]) (st' := []) (g' := up g 155 (g 142 l4) (g 155 (g 142 l4))) k205_138 rfl rfl ?_
      refine q_s (pc' := 67) (ls' := [vR 137, vI l1, vI l2, vI l3, vI (iw (l4 + 1)), vI (iw ((g 155 (g 141 l4)) + 1))]) (st' := []) (g' := up g 155 (g 142 l4) (g 155 (g 142 l4))) k205_141 rfl rfl ?_
      rfl
    · refine q_s (pc' := 122) (ls' := [vR 137, vI l1, vI l2, vI l3, vI l4, vI (iw ((g 155 (g 141 l4)) + 1))]) (st' := [vI (iw ((g 155 (g 141 l4)) + 1)), vI (g 142 l4), vR 155]) (g' := g) k205_120 rfl rfl ?_
      refine q_s (pc' := 137) (ls' := [vR 137, vI l1, vI l2, vI l3, vI l4, vI (iw ((g 155 (g 141 l4)) + 1))]) (st' := [vI (iw ((g 155 (g 141 l4)) + 1)), vI (g 142 l4), vR 155]) (g' := g) k205_122 rfl rfl ?_
      refine q_iast (n := 10) (pc' := 138) rfl k205_137 rfl (by decide) rfl (fun h25 => ?_)
      refine q_s (pc' := 141) (ls' := [vR 137, vI l1, vI l2, vI l3, vI (iw (l4 + 1)), vI (iw ((g 155 (g 141 l4)) + 1))]) (st' := []) (g' := up g 155 (g 142 l4) (iw ((g 155 (g 141 l4)) + 1))) k205_138 rfl rfl ?_
      refine q_s (pc' := 67) (ls' := [vR 137, vI l1, vI l2, vI l3, vI (iw (l4 + 1)), vI (iw ((g 155 (g 141 l4)) + 1))]) (st' := []) (g' := up g 155 (g 142 l4) (iw ((g 155 (g 141 l4)) + 1))) k205_141 rfl rfl ?_
      rfl
set_option maxHeartbeats 4000000 in
theorem jM_draw_eq (L : Nat) (a1 : Int) (a2 : Int) (a3 : Int) (g : AMem) : jM_draw L a1 a2 a3 g = (jM_in L a1 0 999999 g).bind (fun q1 => if q1.1 = 0 then ((jM_bad L q1.2).bind (fun q3 => some (q3.1, q3.2))) else ((jM_in L a2 0 6 q1.2).bind (fun q4 => if q4.1 = 0 then ((jM_bad L q4.2).bind (fun q6 => some (q6.1, q6.2))) else ((jM_in L a3 0 16 q4.2).bind (fun q7 => if q7.1 ≠ 0 then (jM_draw_52 L a1 a2 a3 a1 0 vU vU (up (up q7.2 137 1 0) 137 2 0)) else ((jM_bad L q7.2).bind (fun q9 => some (q9.1, q9.2)))))))) := by
  unfold jM_draw
  refine q_s (pc' := 1) (ls' := [vR 137, vI a1, vI a2, vI a3, vU, vU, vU, vU, vU, vU, vU, vU, vU]) (st' := [vI a1]) (g' := g) k206_0 rfl rfl ?_
  refine q_s (pc' := 2) (ls' := [vR 137, vI a1, vI a2, vI a3, vU, vU, vU, vU, vU, vU, vU, vU, vU]) (st' := [vI 0, vI a1]) (g' := g) k206_1 rfl rfl ?_
  refine q_s (pc' := 4) (ls' := [vR 137, vI a1, vI a2, vI a3, vU, vU, vU, vU, vU, vU, vU, vU, vU]) (st' := [vI 999999, vI 0, vI a1]) (g' := g) k206_2 rfl rfl ?_
  refine q_callI (ls0 := [vI a1, vI 0, vI 999999]) (rest := []) (pc' := 7) rfl k206_4 rfl (hy4 rfl rfl rfl rfl) rfl rfl hq_138 rfl (fun q1 => ?_)
  refine q_if (P := q1.1 = 0) (t := 30) (pc' := 10) k206_7 Iff.rfl rfl rfl (fun h2 => ?_) (fun h2 => ?_)
  · refine q_s (pc' := 31) (ls' := [vR 137, vI a1, vI a2, vI a3, vU, vU, vU, vU, vU, vU, vU, vU, vU]) (st' := [vR 137]) (g' := q1.2) k206_30 rfl rfl ?_
    refine q_callI (ls0 := [vR 137]) (rest := []) (pc' := 34) rfl k206_31 rfl (hy4 rfl rfl rfl rfl) rfl rfl hq_135 rfl (fun q3 => ?_)
    exact q_e k206_34 rfl rfl rfl
  · refine q_s (pc' := 11) (ls' := [vR 137, vI a1, vI a2, vI a3, vU, vU, vU, vU, vU, vU, vU, vU, vU]) (st' := [vI a2]) (g' := q1.2) k206_10 rfl rfl ?_
    refine q_s (pc' := 12) (ls' := [vR 137, vI a1, vI a2, vI a3, vU, vU, vU, vU, vU, vU, vU, vU, vU]) (st' := [vI 0, vI a2]) (g' := q1.2) k206_11 rfl rfl ?_
    refine q_s (pc' := 14) (ls' := [vR 137, vI a1, vI a2, vI a3, vU, vU, vU, vU, vU, vU, vU, vU, vU]) (st' := [vI 6, vI 0, vI a2]) (g' := q1.2) k206_12 rfl rfl ?_
    refine q_callI (ls0 := [vI a2, vI 0, vI 6]) (rest := []) (pc' := 17) rfl k206_14 rfl (hy4 rfl rfl rfl rfl) rfl rfl hq_138 rfl (fun q4 => ?_)
    refine q_if (P := q4.1 = 0) (t := 30) (pc' := 20) k206_17 Iff.rfl rfl rfl (fun h5 => ?_) (fun h5 => ?_)
    · refine q_s (pc' := 31) (ls' := [vR 137, vI a1, vI a2, vI a3, vU, vU, vU, vU, vU, vU, vU, vU, vU]) (st' := [vR 137]) (g' := q4.2) k206_30 rfl rfl ?_
      refine q_callI (ls0 := [vR 137]) (rest := []) (pc' := 34) rfl k206_31 rfl (hy4 rfl rfl rfl rfl) rfl rfl hq_135 rfl (fun q6 => ?_)
      exact q_e k206_34 rfl rfl rfl
    · refine q_s (pc' := 21) (ls' := [vR 137, vI a1, vI a2, vI a3, vU, vU, vU, vU, vU, vU, vU, vU, vU]) (st' := [vI a3]) (g' := q4.2) k206_20 rfl rfl ?_
      refine q_s (pc' := 22) (ls' := [vR 137, vI a1, vI a2, vI a3, vU, vU, vU, vU, vU, vU, vU, vU, vU]) (st' := [vI 0, vI a3]) (g' := q4.2) k206_21 rfl rfl ?_
      refine q_s (pc' := 24) (ls' := [vR 137, vI a1, vI a2, vI a3, vU, vU, vU, vU, vU, vU, vU, vU, vU]) (st' := [vI 16, vI 0, vI a3]) (g' := q4.2) k206_22 rfl rfl ?_
      refine q_callI (ls0 := [vI a3, vI 0, vI 16]) (rest := []) (pc' := 27) rfl k206_24 rfl (hy4 rfl rfl rfl rfl) rfl rfl hq_138 rfl (fun q7 => ?_)
      refine q_if (P := q7.1 ≠ 0) (t := 35) (pc' := 30) k206_27 Iff.rfl rfl rfl (fun h8 => ?_) (fun h8 => ?_)
      · refine q_s (pc' := 36) (ls' := [vR 137, vI a1, vI a2, vI a3, vU, vU, vU, vU, vU, vU, vU, vU, vU]) (st' := [vR 137]) (g' := q7.2) k206_35 rfl rfl ?_
        refine q_s (pc' := 37) (ls' := [vR 137, vI a1, vI a2, vI a3, vU, vU, vU, vU, vU, vU, vU, vU, vU]) (st' := [vI 0, vR 137]) (g' := q7.2) k206_36 rfl rfl ?_
        refine q_putI (w := 1) (pc' := 40) k206_37 rfl rfl rfl rfl ?_
        refine q_s (pc' := 41) (ls' := [vR 137, vI a1, vI a2, vI a3, vU, vU, vU, vU, vU, vU, vU, vU, vU]) (st' := [vR 137]) (g' := up q7.2 137 1 0) k206_40 rfl rfl ?_
        refine q_s (pc' := 42) (ls' := [vR 137, vI a1, vI a2, vI a3, vU, vU, vU, vU, vU, vU, vU, vU, vU]) (st' := [vI 0, vR 137]) (g' := up q7.2 137 1 0) k206_41 rfl rfl ?_
        refine q_putI (w := 2) (pc' := 45) k206_42 rfl rfl rfl rfl ?_
        refine q_s (pc' := 46) (ls' := [vR 137, vI a1, vI a2, vI a3, vU, vU, vU, vU, vU, vU, vU, vU, vU]) (st' := [vI a1]) (g' := up (up q7.2 137 1 0) 137 2 0) k206_45 rfl rfl ?_
        refine q_s (pc' := 47) (ls' := [vR 137, vI a1, vI a2, vI a3, vU, vU, vU, vU, vU, vU, vU, vU, vU]) (st' := [vL a1]) (g' := up (up q7.2 137 1 0) 137 2 0) k206_46 rfl rfl ?_
        refine q_s (pc' := 49) (ls' := [vR 137, vI a1, vI a2, vI a3, vL a1, vU, vU, vU, vU, vU, vU, vU, vU]) (st' := []) (g' := up (up q7.2 137 1 0) 137 2 0) k206_47 rfl rfl ?_
        refine q_s (pc' := 50) (ls' := [vR 137, vI a1, vI a2, vI a3, vL a1, vU, vU, vU, vU, vU, vU, vU, vU]) (st' := [vI 0]) (g' := up (up q7.2 137 1 0) 137 2 0) k206_49 rfl rfl ?_
        refine q_s (pc' := 52) (ls' := [vR 137, vI a1, vI a2, vI a3, vL a1, vU, vI 0, vU, vU, vU, vU, vU, vU]) (st' := []) (g' := up (up q7.2 137 1 0) 137 2 0) k206_50 rfl rfl ?_
        rfl
      · refine q_s (pc' := 31) (ls' := [vR 137, vI a1, vI a2, vI a3, vU, vU, vU, vU, vU, vU, vU, vU, vU]) (st' := [vR 137]) (g' := q7.2) k206_30 rfl rfl ?_
        refine q_callI (ls0 := [vR 137]) (rest := []) (pc' := 34) rfl k206_31 rfl (hy4 rfl rfl rfl rfl) rfl rfl hq_135 rfl (fun q9 => ?_)
        exact q_e k206_34 rfl rfl rfl
set_option maxHeartbeats 4000000 in
theorem jM_draw_52_eq (L : Nat) (l1 : Int) (l2 : Int) (l3 : Int) (l4 : Int) (l6 : Int) (w7 : AVal) (w8 : AVal) (g : AMem) : jM_draw_52 L l1 l2 l3 l4 l6 w7 w8 g = if 8 ≤ l6 then (jM_draw_141 L l1 l2 l3 l4 0 w7 w8 vU vU vU vU g) else ((jM_newBlock L g).bind (fun q11 => jM_draw_67 L l1 l2 l3 l4 l6 0 w8 q11.2)) := by
  unfold jM_draw_52
  refine q_s (pc' := 54) (ls' := [vR 137, vI l1, vI l2, vI l3, vL l4, vU, vI l6, w7, w8, vU, vU, vU, vU]) (st' := [vI l6]) (g' := g) k206_52 rfl rfl ?_
  refine q_s (pc' := 56) (ls' := [vR 137, vI l1, vI l2, vI l3, vL l4, vU, vI l6, w7, w8, vU, vU, vU, vU]) (st' := [vI 8, vI l6]) (g' := g) k206_54 rfl rfl ?_
  refine q_ic (P := 8 ≤ l6) (t := 138) (pc' := 59) k206_56 Iff.rfl rfl rfl (fun h10 => ?_) (fun h10 => ?_)
  · refine q_s (pc' := 139) (ls' := [vR 137, vI l1, vI l2, vI l3, vL l4, vU, vI l6, w7, w8, vU, vU, vU, vU]) (st' := [vI 0]) (g' := g) k206_138 rfl rfl ?_
    refine q_s (pc' := 141) (ls' := [vR 137, vI l1, vI l2, vI l3, vL l4, vU, vI 0, w7, w8, vU, vU, vU, vU]) (st' := []) (g' := g) k206_139 rfl rfl ?_
    rfl
  · refine q_s (pc' := 60) (ls' := [vR 137, vI l1, vI l2, vI l3, vL l4, vU, vI l6, w7, w8, vU, vU, vU, vU]) (st' := [vR 137]) (g' := g) k206_59 rfl rfl ?_
    refine q_callI (ls0 := [vR 137]) (rest := []) (pc' := 63) rfl k206_60 rfl (hy4 rfl rfl rfl rfl) rfl rfl hq_151 rfl (fun q11 => ?_)
    refine q_s (pc' := 64) (ls' := [vR 137, vI l1, vI l2, vI l3, vL l4, vU, vI l6, w7, w8, vU, vU, vU, vU]) (st' := []) (g' := q11.2) k206_63 rfl rfl ?_
    refine q_s (pc' := 65) (ls' := [vR 137, vI l1, vI l2, vI l3, vL l4, vU, vI l6, w7, w8, vU, vU, vU, vU]) (st' := [vI 0]) (g' := q11.2) k206_64 rfl rfl ?_
    refine q_s (pc' := 67) (ls' := [vR 137, vI l1, vI l2, vI l3, vL l4, vU, vI l6, vI 0, w8, vU, vU, vU, vU]) (st' := []) (g' := q11.2) k206_65 rfl rfl ?_
    rfl
set_option maxHeartbeats 4000000 in
theorem jM_draw_67_eq (L : Nat) (l1 : Int) (l2 : Int) (l3 : Int) (l4 : Int) (l6 : Int) (l7 : Int) (w8 : AVal) (g : AMem) : jM_draw_67 L l1 l2 l3 l4 l6 l7 w8 g = if l2 ≤ l7 then (jM_draw_52 L l1 l2 l3 l4 (iw (l6 + 1)) (vI l7) w8 g) else ((jM_next L l4 g).bind (fun q13 => if iw (lw ((lw (q13.1.tdiv 65536)) - (lw (q13.1.tdiv 65536)).tdiv 3 * 3)) ≠ 0 then (if iw (lw ((lw (q13.1.tdiv 65536)) - (lw (q13.1.tdiv 65536)).tdiv 3 * 3)) ≠ 1 then ((jM_newParameter L l6 (iw ((iw (40 * l7)) + 1)) q13.2).bind (fun q16 => jM_draw_67 L l1 l2 l3 q13.1 l6 (iw (l7 + 1)) (vI (iw (lw ((lw (q13.1.tdiv 65536)) - (lw (q13.1.tdiv 65536)).tdiv 3 * 3)))) q16.2)) else ((jM_newParameter L l6 (iw ((iw (40 * l7)) + 2)) q13.2).bind (fun q17 => jM_draw_67 L l1 l2 l3 q13.1 l6 (iw (l7 + 1)) (vI (iw (lw ((lw (q13.1.tdiv 65536)) - (lw (q13.1.tdiv 65536)).tdiv 3 * 3)))) q17.2))) else ((jM_newParameter L l6 (iw ((iw (40 * l7)) + 4)) q13.2).bind (fun q18 => jM_draw_67 L l1 l2 l3 q13.1 l6 (iw (l7 + 1)) (vI (iw (lw ((lw (q13.1.tdiv 65536)) - (lw (q13.1.tdiv 65536)).tdiv 3 * 3)))) q18.2)))) := by
  unfold jM_draw_67
  refine q_s (pc' := 69) (ls' := [vR 137, vI l1, vI l2, vI l3, vL l4, vU, vI l6, vI l7, w8, vU, vU, vU, vU]) (st' := [vI l7]) (g' := g) k206_67 rfl rfl ?_
  refine q_s (pc' := 70) (ls' := [vR 137, vI l1, vI l2, vI l3, vL l4, vU, vI l6, vI l7, w8, vU, vU, vU, vU]) (st' := [vI l2, vI l7]) (g' := g) k206_69 rfl rfl ?_
  refine q_ic (P := l2 ≤ l7) (t := 132) (pc' := 73) k206_70 Iff.rfl rfl rfl (fun h12 => ?_) (fun h12 => ?_)
  · refine q_s (pc' := 135) (ls' := [vR 137, vI l1, vI l2, vI l3, vL l4, vU, vI (iw (l6 + 1)), vI l7, w8, vU, vU, vU, vU]) (st' := []) (g' := g) k206_132 rfl rfl ?_
    refine q_s (pc' := 52) (ls' := [vR 137, vI l1, vI l2, vI l3, vL l4, vU, vI (iw (l6 + 1)), vI l7, w8, vU, vU, vU, vU]) (st' := []) (g' := g) k206_135 rfl rfl ?_
    rfl
  · refine q_s (pc' := 75) (ls' := [vR 137, vI l1, vI l2, vI l3, vL l4, vU, vI l6, vI l7, w8, vU, vU, vU, vU]) (st' := [vL l4]) (g' := g) k206_73 rfl rfl ?_
    refine q_callL (ls0 := [vL l4, vU]) (rest := []) (pc' := 78) rfl k206_75 rfl (hy4 rfl rfl rfl rfl) rfl rfl hq_197 rfl (fun q13 => ?_)
    refine q_s (pc' := 80) (ls' := [vR 137, vI l1, vI l2, vI l3, vL q13.1, vU, vI l6, vI l7, w8, vU, vU, vU, vU]) (st' := []) (g' := q13.2) k206_78 rfl rfl ?_
    refine q_s (pc' := 82) (ls' := [vR 137, vI l1, vI l2, vI l3, vL q13.1, vU, vI l6, vI l7, w8, vU, vU, vU, vU]) (st' := [vL q13.1]) (g' := q13.2) k206_80 rfl rfl ?_
    refine q_s (pc' := 85) (ls' := [vR 137, vI l1, vI l2, vI l3, vL q13.1, vU, vI l6, vI l7, w8, vU, vU, vU, vU]) (st' := [vL 65536, vL q13.1]) (g' := q13.2) k206_82 rfl rfl ?_
    refine q_s (pc' := 86) (ls' := [vR 137, vI l1, vI l2, vI l3, vL q13.1, vU, vI l6, vI l7, w8, vU, vU, vU, vU]) (st' := [vL (lw (q13.1.tdiv 65536))]) (g' := q13.2) k206_85 rfl rfl ?_
    refine q_s (pc' := 89) (ls' := [vR 137, vI l1, vI l2, vI l3, vL q13.1, vU, vI l6, vI l7, w8, vU, vU, vU, vU]) (st' := [vL 3, vL (lw (q13.1.tdiv 65536))]) (g' := q13.2) k206_86 rfl rfl ?_
    refine q_s (pc' := 90) (ls' := [vR 137, vI l1, vI l2, vI l3, vL q13.1, vU, vI l6, vI l7, w8, vU, vU, vU, vU]) (st' := [vL (lw ((lw (q13.1.tdiv 65536)) - (lw (q13.1.tdiv 65536)).tdiv 3 * 3))]) (g' := q13.2) k206_89 rfl rfl ?_
    refine q_s (pc' := 91) (ls' := [vR 137, vI l1, vI l2, vI l3, vL q13.1, vU, vI l6, vI l7, w8, vU, vU, vU, vU]) (st' := [vI (iw (lw ((lw (q13.1.tdiv 65536)) - (lw (q13.1.tdiv 65536)).tdiv 3 * 3)))]) (g' := q13.2) k206_90 rfl rfl ?_
    refine q_s (pc' := 93) (ls' := [vR 137, vI l1, vI l2, vI l3, vL q13.1, vU, vI l6, vI l7, vI (iw (lw ((lw (q13.1.tdiv 65536)) - (lw (q13.1.tdiv 65536)).tdiv 3 * 3))), vU, vU, vU, vU]) (st' := []) (g' := q13.2) k206_91 rfl rfl ?_
    refine q_s (pc' := 94) (ls' := [vR 137, vI l1, vI l2, vI l3, vL q13.1, vU, vI l6, vI l7, vI (iw (lw ((lw (q13.1.tdiv 65536)) - (lw (q13.1.tdiv 65536)).tdiv 3 * 3))), vU, vU, vU, vU]) (st' := [vR 137]) (g' := q13.2) k206_93 rfl rfl ?_
    refine q_s (pc' := 96) (ls' := [vR 137, vI l1, vI l2, vI l3, vL q13.1, vU, vI l6, vI l7, vI (iw (lw ((lw (q13.1.tdiv 65536)) - (lw (q13.1.tdiv 65536)).tdiv 3 * 3))), vU, vU, vU, vU]) (st' := [vI l6, vR 137]) (g' := q13.2) k206_94 rfl rfl ?_
    refine q_s (pc' := 98) (ls' := [vR 137, vI l1, vI l2, vI l3, vL q13.1, vU, vI l6, vI l7, vI (iw (lw ((lw (q13.1.tdiv 65536)) - (lw (q13.1.tdiv 65536)).tdiv 3 * 3))), vU, vU, vU, vU]) (st' := [vI 40, vI l6, vR 137]) (g' := q13.2) k206_96 rfl rfl ?_
    refine q_s (pc' := 100) (ls' := [vR 137, vI l1, vI l2, vI l3, vL q13.1, vU, vI l6, vI l7, vI (iw (lw ((lw (q13.1.tdiv 65536)) - (lw (q13.1.tdiv 65536)).tdiv 3 * 3))), vU, vU, vU, vU]) (st' := [vI l7, vI 40, vI l6, vR 137]) (g' := q13.2) k206_98 rfl rfl ?_
    refine q_s (pc' := 101) (ls' := [vR 137, vI l1, vI l2, vI l3, vL q13.1, vU, vI l6, vI l7, vI (iw (lw ((lw (q13.1.tdiv 65536)) - (lw (q13.1.tdiv 65536)).tdiv 3 * 3))), vU, vU, vU, vU]) (st' := [vI (iw (40 * l7)), vI l6, vR 137]) (g' := q13.2) k206_100 rfl rfl ?_
    refine q_s (pc' := 103) (ls' := [vR 137, vI l1, vI l2, vI l3, vL q13.1, vU, vI l6, vI l7, vI (iw (lw ((lw (q13.1.tdiv 65536)) - (lw (q13.1.tdiv 65536)).tdiv 3 * 3))), vU, vU, vU, vU]) (st' := [vI (iw (lw ((lw (q13.1.tdiv 65536)) - (lw (q13.1.tdiv 65536)).tdiv 3 * 3))), vI (iw (40 * l7)), vI l6, vR 137]) (g' := q13.2) k206_101 rfl rfl ?_
    refine q_if (P := iw (lw ((lw (q13.1.tdiv 65536)) - (lw (q13.1.tdiv 65536)).tdiv 3 * 3)) ≠ 0) (t := 110) (pc' := 106) k206_103 Iff.rfl rfl rfl (fun h14 => ?_) (fun h14 => ?_)
    · refine q_s (pc' := 112) (ls' := [vR 137, vI l1, vI l2, vI l3, vL q13.1, vU, vI l6, vI l7, vI (iw (lw ((lw (q13.1.tdiv 65536)) - (lw (q13.1.tdiv 65536)).tdiv 3 * 3))), vU, vU, vU, vU]) (st' := [vI (iw (lw ((lw (q13.1.tdiv 65536)) - (lw (q13.1.tdiv 65536)).tdiv 3 * 3))), vI (iw (40 * l7)), vI l6, vR 137]) (g' := q13.2) k206_110 rfl rfl ?_
      refine q_s (pc' := 113) (ls' := [vR 137, vI l1, vI l2, vI l3, vL q13.1, vU, vI l6, vI l7, vI (iw (lw ((lw (q13.1.tdiv 65536)) - (lw (q13.1.tdiv 65536)).tdiv 3 * 3))), vU, vU, vU, vU]) (st' := [vI 1, vI (iw (lw ((lw (q13.1.tdiv 65536)) - (lw (q13.1.tdiv 65536)).tdiv 3 * 3))), vI (iw (40 * l7)), vI l6, vR 137]) (g' := q13.2) k206_112 rfl rfl ?_
      refine q_ic (P := iw (lw ((lw (q13.1.tdiv 65536)) - (lw (q13.1.tdiv 65536)).tdiv 3 * 3)) ≠ 1) (t := 120) (pc' := 116) k206_113 Iff.rfl rfl rfl (fun h15 => ?_) (fun h15 => ?_)
      · refine q_s (pc' := 121) (ls' := [vR 137, vI l1, vI l2, vI l3, vL q13.1, vU, vI l6, vI l7, vI (iw (lw ((lw (q13.1.tdiv 65536)) - (lw (q13.1.tdiv 65536)).tdiv 3 * 3))), vU, vU, vU, vU]) (st' := [vI 1, vI (iw (40 * l7)), vI l6, vR 137]) (g' := q13.2) k206_120 rfl rfl ?_
        refine q_s (pc' := 122) (ls' := [vR 137, vI l1, vI l2, vI l3, vL q13.1, vU, vI l6, vI l7, vI (iw (lw ((lw (q13.1.tdiv 65536)) - (lw (q13.1.tdiv 65536)).tdiv 3 * 3))), vU, vU, vU, vU]) (st' := [vI (iw ((iw (40 * l7)) + 1)), vI l6, vR 137]) (g' := q13.2) k206_121 rfl rfl ?_
        refine q_callI (ls0 := [vR 137, vI l6, vI (iw ((iw (40 * l7)) + 1)), vU, vU]) (rest := []) (pc' := 125) rfl k206_122 rfl (hy4 rfl rfl rfl rfl) rfl rfl hq_154 rfl (fun q16 => ?_)
        refine q_s (pc' := 126) (ls' := [vR 137, vI l1, vI l2, vI l3, vL q13.1, vU, vI l6, vI l7, vI (iw (lw ((lw (q13.1.tdiv 65536)) - (lw (q13.1.tdiv 65536)).tdiv 3 * 3))), vU, vU, vU, vU]) (st' := []) (g' := q16.2) k206_125 rfl rfl ?_
        refine q_s (pc' := 129) (ls' := [vR 137, vI l1, vI l2, vI l3, vL q13.1, vU, vI l6, vI (iw (l7 + 1)), vI (iw (lw ((lw (q13.1.tdiv 65536)) - (lw (q13.1.tdiv 65536)).tdiv 3 * 3))), vU, vU, vU, vU]) (st' := []) (g' := q16.2) k206_126 rfl rfl ?_
        refine q_s (pc' := 67) (ls' := [vR 137, vI l1, vI l2, vI l3, vL q13.1, vU, vI l6, vI (iw (l7 + 1)), vI (iw (lw ((lw (q13.1.tdiv 65536)) - (lw (q13.1.tdiv 65536)).tdiv 3 * 3))), vU, vU, vU, vU]) (st' := []) (g' := q16.2) k206_129 rfl rfl ?_
        rfl
      · refine q_s (pc' := 117) (ls' := [vR 137, vI l1, vI l2, vI l3, vL q13.1, vU, vI l6, vI l7, vI (iw (lw ((lw (q13.1.tdiv 65536)) - (lw (q13.1.tdiv 65536)).tdiv 3 * 3))), vU, vU, vU, vU]) (st' := [vI 2, vI (iw (40 * l7)), vI l6, vR 137]) (g' := q13.2) k206_116 rfl rfl ?_
        refine q_s (pc' := 121) (ls' := [vR 137, vI l1, vI l2, vI l3, vL q13.1, vU, vI l6, vI l7, vI (iw (lw ((lw (q13.1.tdiv 65536)) - (lw (q13.1.tdiv 65536)).tdiv 3 * 3))), vU, vU, vU, vU]) (st' := [vI 2, vI (iw (40 * l7)), vI l6, vR 137]) (g' := q13.2) k206_117 rfl rfl ?_
        refine q_s (pc' := 122) (ls' := [vR 137, vI l1, vI l2, vI l3, vL q13.1, vU, vI l6, vI l7, vI (iw (lw ((lw (q13.1.tdiv 65536)) - (lw (q13.1.tdiv 65536)).tdiv 3 * 3))), vU, vU, vU, vU]) (st' := [vI (iw ((iw (40 * l7)) + 2)), vI l6, vR 137]) (g' := q13.2) k206_121 rfl rfl ?_
        refine q_callI (ls0 := [vR 137, vI l6, vI (iw ((iw (40 * l7)) + 2)), vU, vU]) (rest := []) (pc' := 125) rfl k206_122 rfl (hy4 rfl rfl rfl rfl) rfl rfl hq_154 rfl (fun q17 => ?_)
        refine q_s (pc' := 126) (ls' := [vR 137, vI l1, vI l2, vI l3, vL q13.1, vU, vI l6, vI l7, vI (iw (lw ((lw (q13.1.tdiv 65536)) - (lw (q13.1.tdiv 65536)).tdiv 3 * 3))), vU, vU, vU, vU]) (st' := []) (g' := q17.2) k206_125 rfl rfl ?_
        refine q_s (pc' := 129) (ls' := [vR 137, vI l1, vI l2, vI l3, vL q13.1, vU, vI l6, vI (iw (l7 + 1)), vI (iw (lw ((lw (q13.1.tdiv 65536)) - (lw (q13.1.tdiv 65536)).tdiv 3 * 3))), vU, vU, vU, vU]) (st' := []) (g' := q17.2) k206_126 rfl rfl ?_
        refine q_s (pc' := 67) (ls' := [vR 137, vI l1, vI l2, vI l3, vL q13.1, vU, vI l6, vI (iw (l7 + 1)), vI (iw (lw ((lw (q13.1.tdiv 65536)) - (lw (q13.1.tdiv 65536)).tdiv 3 * 3))), vU, vU, vU, vU]) (st' := []) (g' := q17.2) k206_129 rfl rfl ?_
        rfl
    · refine q_s (pc' := 107) (ls' := [vR 137, vI l1, vI l2, vI l3, vL q13.1, vU, vI l6, vI l7, vI (iw (lw ((lw (q13.1.tdiv 65536)) - (lw (q13.1.tdiv 65536)).tdiv 3 * 3))), vU, vU, vU, vU]) (st' := [vI 4, vI (iw (40 * l7)), vI l6, vR 137]) (g' := q13.2) k206_106 rfl rfl ?_
      refine q_s (pc' := 121) (ls' := [vR 137, vI l1, vI l2, vI l3, vL q13.1, vU, vI l6, vI l7, vI (iw (lw ((lw (q13.1.tdiv 65536)) - (lw (q13.1.tdiv 65536)).tdiv 3 * 3))), vU, vU, vU, vU]) (st' := [vI 4, vI (iw (40 * l7)), vI l6, vR 137]) (g' := q13.2) k206_107 rfl rfl ?_
      refine q_s (pc' := 122) (ls' := [vR 137, vI l1, vI l2, vI l3, vL q13.1, vU, vI l6, vI l7, vI (iw (lw ((lw (q13.1.tdiv 65536)) - (lw (q13.1.tdiv 65536)).tdiv 3 * 3))), vU, vU, vU, vU]) (st' := [vI (iw ((iw (40 * l7)) + 4)), vI l6, vR 137]) (g' := q13.2) k206_121 rfl rfl ?_
      refine q_callI (ls0 := [vR 137, vI l6, vI (iw ((iw (40 * l7)) + 4)), vU, vU]) (rest := []) (pc' := 125) rfl k206_122 rfl (hy4 rfl rfl rfl rfl) rfl rfl hq_154 rfl (fun q18 => ?_)
      refine q_s (pc' := 126) (ls' := [vR 137, vI l1, vI l2, vI l3, vL q13.1, vU, vI l6, vI l7, vI (iw (lw ((lw (q13.1.tdiv 65536)) - (lw (q13.1.tdiv 65536)).tdiv 3 * 3))), vU, vU, vU, vU]) (st' := []) (g' := q18.2) k206_125 rfl rfl ?_
      refine q_s (pc' := 129) (ls' := [vR 137, vI l1, vI l2, vI l3, vL q13.1, vU, vI l6, vI (iw (l7 + 1)), vI (iw (lw ((lw (q13.1.tdiv 65536)) - (lw (q13.1.tdiv 65536)).tdiv 3 * 3))), vU, vU, vU, vU]) (st' := []) (g' := q18.2) k206_126 rfl rfl ?_
      refine q_s (pc' := 67) (ls' := [vR 137, vI l1, vI l2, vI l3, vL q13.1, vU, vI l6, vI (iw (l7 + 1)), vI (iw (lw ((lw (q13.1.tdiv 65536)) - (lw (q13.1.tdiv 65536)).tdiv 3 * 3))), vU, vU, vU, vU]) (st' := []) (g' := q18.2) k206_129 rfl rfl ?_
      rfl
set_option maxHeartbeats 4000000 in
theorem jM_draw_141_eq (L : Nat) (l1 : Int) (l2 : Int) (l3 : Int) (l4 : Int) (l6 : Int) (w7 : AVal) (w8 : AVal) (w9 : AVal) (w10 : AVal) (w11 : AVal) (w12 : AVal) (g : AMem) : jM_draw_141 L l1 l2 l3 l4 l6 w7 w8 w9 w10 w11 w12 g = if l3 ≤ l6 then (some (l3, g)) else ((jM_next L l4 g).bind (fun q20 => (jM_next L q20.1 q20.2).bind (fun q21 => (jM_next L q21.1 q21.2).bind (fun q22 => (jM_newEdge L (iw (lw ((lw (q20.1.tdiv 65536)) - (lw (q20.1.tdiv 65536)).tdiv 8 * 8))) (iw (lw ((lw (q21.1.tdiv 65536)) - (lw (q21.1.tdiv 65536)).tdiv 8 * 8))) (iw (lw ((lw (q22.1.tdiv 65536)) - (lw (q22.1.tdiv 65536)).tdiv 100 * 100))) q22.2).bind (fun q23 => jM_draw_218 L l1 l2 l3 q22.1 l6 (iw (lw ((lw (q20.1.tdiv 65536)) - (lw (q20.1.tdiv 65536)).tdiv 8 * 8))) (iw (lw ((lw (q21.1.tdiv 65536)) - (lw (q21.1.tdiv 65536)).tdiv 8 * 8))) q23.1 0 w11 w12 q23.2))))) := by
  unfold jM_draw_141
  refine q_s (pc' := 143) (ls' := [vR 137, vI l1, vI l2, vI l3, vL l4, vU, vI l6, w7, w8, w9, w10, w11, w12]) (st' := [vI l6]) (g' := g) k206_141 rfl rfl ?_
  refine q_s (pc' := 144) (ls' := [vR 137, vI l1, vI l2, vI l3, vL l4, vU, vI l6, w7, w8, w9, w10, w11, w12]) (st' := [vI l3, vI l6]) (g' := g) k206_143 rfl rfl ?_
  refine q_ic (P := l3 ≤ l6) (t := 313) (pc' := 147) k206_144 Iff.rfl rfl rfl (fun h19 => ?_) (fun h19 => ?_)
  · refine q_s (pc' := 314) (ls' := [vR 137, vI l1, vI l2, vI l3, vL l4, vU, vI l6, w7, w8, w9, w10, w11, w12]) (st' := [vI l3]) (g' := g) k206_313 rfl rfl ?_
    exact q_e k206_314 rfl rfl rfl
  · refine q_s (pc' := 149) (ls' := [vR 137, vI l1, vI l2, vI l3, vL l4, vU, vI l6, w7, w8, w9, w10, w11, w12]) (st' := [vL l4]) (g' := g) k206_147 rfl rfl ?_
    refine q_callL (ls0 := [vL l4, vU]) (rest := []) (pc' := 152) rfl k206_149 rfl (hy4 rfl rfl rfl rfl) rfl rfl hq_197 rfl (fun q20 => ?_)
    refine q_s (pc' := 154) (ls' := [vR 137, vI l1, vI l2, vI l3, vL q20.1, vU, vI l6, w7, w8, w9, w10, w11, w12]) (st' := []) (g' := q20.2) k206_152 rfl rfl ?_
    refine q_s (pc' := 156) (ls' := [vR 137, vI l1, vI l2, vI l3, vL q20.1, vU, vI l6, w7, w8, w9, w10, w11, w12]) (st' := [vL q20.1]) (g' := q20.2) k206_154 rfl rfl ?_
    refine q_s (pc' := 159) (ls' := [vR 137, vI l1, vI l2, vI l3, vL q20.1, vU, vI l6, w7, w8, w9, w10, w11, w12]) (st' := [vL 65536, vL q20.1]) (g' := q20.2) k206_156 rfl rfl ?_
    refine q_s (pc' := 160) (ls' := [vR 137, vI l1, vI l2, vI l3, vL q20.1, vU, vI l6, w7, w8, w9, w10, w11, w12]) (st' := [vL (lw (q20.1.tdiv 65536))]) (g' := q20.2) k206_159 rfl rfl ?_
    refine q_s (pc' := 163) (ls' := [vR 137, vI l1, vI l2, vI l3, vL q20.1, vU, vI l6, w7, w8, w9, w10, w11, w12]) (st' := [vL 8, vL (lw (q20.1.tdiv 65536))]) (g' := q20.2) k206_160 rfl rfl ?_
    refine q_s (pc' := 164) (ls' := [vR 137, vI l1, vI l2, vI l3, vL q20.1, vU, vI l6, w7, w8, w9, w10, w11, w12]) (st' := [vL (lw ((lw (q20.1.tdiv 65536)) - (lw (q20.1.tdiv 65536)).tdiv 8 * 8))]) (g' := q20.2) k206_163 rfl rfl ?_
    refine q_s (pc' := 165) (ls' := [vR 137, vI l1, vI l2, vI l3, vL q20.1, vU, vI l6, w7, w8, w9, w10, w11, w12]) (st' := [vI (iw (lw ((lw (q20.1.tdiv 65536)) - (lw (q20.1.tdiv 65536)).tdiv 8 * 8)))]) (g' := q20.2) k206_164 rfl rfl ?_
    refine q_s (pc' := 167) (ls' := [vR 137, vI l1, vI l2, vI l3, vL q20.1, vU, vI l6, vI (iw (lw ((lw (q20.1.tdiv 65536)) - (lw (q20.1.tdiv 65536)).tdiv 8 * 8))), w8, w9, w10, w11, w12]) (st' := []) (g' := q20.2) k206_165 rfl rfl ?_
    refine q_s (pc' := 169) (ls' := [vR 137, vI l1, vI l2, vI l3, vL q20.1, vU, vI l6, vI (iw (lw ((lw (q20.1.tdiv 65536)) - (lw (q20.1.tdiv 65536)).tdiv 8 * 8))), w8, w9, w10, w11, w12]) (st' := [vL q20.1]) (g' := q20.2) k206_167 rfl rfl ?_
    refine q_callL (ls0 := [vL q20.1, vU]) (rest := []) (pc' := 172) rfl k206_169 rfl (hy4 rfl rfl rfl rfl) rfl rfl hq_197 rfl (fun q21 => ?_)
    refine q_s (pc' := 174) (ls' := [vR 137, vI l1, vI l2, vI l3, vL q21.1, vU, vI l6, vI (iw (lw ((lw (q20.1.tdiv 65536)) - (lw (q20.1.tdiv 65536)).tdiv 8 * 8))), w8, w9, w10, w11, w12]) (st' := []) (g' := q21.2) k206_172 rfl rfl ?_
    refine q_s (pc' := 176) (ls' := [vR 137, vI l1, vI l2, vI l3, vL q21.1, vU, vI l6, vI (iw (lw ((lw (q20.1.tdiv 65536)) - (lw (q20.1.tdiv 65536)).tdiv 8 * 8))), w8, w9, w10, w11, w12]) (st' := [vL q21.1]) (g' := q21.2) k206_174 rfl rfl ?_
    refine q_s (pc' := 179) (ls' := [vR 137, vI l1, vI l2, vI l3, vL q21.1, vU, vI l6, vI (iw (lw ((lw (q20.1.tdiv 65536)) - (lw (q20.1.tdiv 65536)).tdiv 8 * 8))), w8, w9, w10, w11, w12]) (st' := [vL 65536, vL q21.1]) (g' := q21.2) k206_176 rfl rfl ?_
    refine q_s (pc' := 180) (ls' := [vR 137, vI l1, vI l2, vI l3, vL q21.1, vU, vI l6, vI (iw (lw ((lw (q20.1.tdiv 65536)) - (lw (q20.1.tdiv 65536)).tdiv 8 * 8))), w8, w9, w10, w11, w12]) (st' := [vL (lw (q21.1.tdiv 65536))]) (g' := q21.2) k206_179 rfl rfl ?_
    refine q_s (pc' := 183) (ls' := [vR 137, vI l1, vI l2, vI l3, vL q21.1, vU, vI l6, vI (iw (lw ((lw (q20.1.tdiv 65536)) - (lw (q20.1.tdiv 65536)).tdiv 8 * 8))), w8, w9, w10, w11, w12]) (st' := [vL 8, vL (lw (q21.1.tdiv 65536))]) (g' := q21.2) k206_180 rfl rfl ?_
    refine q_s (pc' := 184) (ls' := [vR 137, vI l1, vI l2, vI l3, vL q21.1, vU, vI l6, vI (iw (lw ((lw (q20.1.tdiv 65536)) - (lw (q20.1.tdiv 65536)).tdiv 8 * 8))), w8, w9, w10, w11, w12]) (st' := [vL (lw ((lw (q21.1.tdiv 65536)) - (lw (q21.1.tdiv 65536)).tdiv 8 * 8))]) (g' := q21.2) k206_183 rfl rfl ?_
    refine q_s (pc' := 185) (ls' := [vR 137, vI l1, vI l2, vI l3, vL q21.1, vU, vI l6, vI (iw (lw ((lw (q20.1.tdiv 65536)) - (lw (q20.1.tdiv 65536)).tdiv 8 * 8))), w8, w9, w10, w11, w12]) (st' := [vI (iw (lw ((lw (q21.1.tdiv 65536)) - (lw (q21.1.tdiv 65536)).tdiv 8 * 8)))]) (g' := q21.2) k206_184 rfl rfl ?_
    refine q_s (pc' := 187) (ls' := [vR 137, vI l1, vI l2, vI l3, vL q21.1, vU, vI l6, vI (iw (lw ((lw (q20.1.tdiv 65536)) - (lw (q20.1.tdiv 65536)).tdiv 8 * 8))), vI (iw (lw ((lw (q21.1.tdiv 65536)) - (lw (q21.1.tdiv 65536)).tdiv 8 * 8))), w9, w10, w11, w12]) (st' := []) (g' := q21.2) k206_185 rfl rfl ?_
    refine q_s (pc' := 189) (ls' := [vR 137, vI l1, vI l2, vI l3, vL q21.1, vU, vI l6, vI (iw (lw ((lw (q20.1.tdiv 65536)) - (lw (q20.1.tdiv 65536)).tdiv 8 * 8))), vI (iw (lw ((lw (q21.1.tdiv 65536)) - (lw (q21.1.tdiv 65536)).tdiv 8 * 8))), w9, w10, w11, w12]) (st' := [vL q21.1]) (g' := q21.2) k206_187 rfl rfl ?_
    refine q_callL (ls0 := [vL q21.1, vU]) (rest := []) (pc' := 192) rfl k206_189 rfl (hy4 rfl rfl rfl rfl) rfl rfl hq_197 rfl (fun q22 => ?_)
    refine q_s (pc' := 194) (ls' := [vR 137, vI l1, vI l2, vI l3, vL q22.1, vU, vI l6, vI (iw (lw ((lw (q20.1.tdiv 65536)) - (lw (q20.1.tdiv 65536)).tdiv 8 * 8))), vI (iw (lw ((lw (q21.1.tdiv 65536)) - (lw (q21.1.tdiv 65536)).tdiv 8 * 8))), w9, w10, w11, w12]) (st' := []) (g' := q22.2) k206_192 rfl rfl ?_
    refine q_s (pc' := 195) (ls' := [vR 137, vI l1, vI l2, vI l3, vL q22.1, vU, vI l6, vI (iw (lw ((lw (q20.1.tdiv 65536)) - (lw (q20.1.tdiv 65536)).tdiv 8 * 8))), vI (iw (lw ((lw (q21.1.tdiv 65536)) - (lw (q21.1.tdiv 65536)).tdiv 8 * 8))), w9, w10, w11, w12]) (st' := [vR 137]) (g' := q22.2) k206_194 rfl rfl ?_
    refine q_s (pc' := 197) (ls' := [vR 137, vI l1, vI l2, vI l3, vL q22.1, vU, vI l6, vI (iw (lw ((lw (q20.1.tdiv 65536)) - (lw (q20.1.tdiv 65536)).tdiv 8 * 8))), vI (iw (lw ((lw (q21.1.tdiv 65536)) - (lw (q21.1.tdiv 65536)).tdiv 8 * 8))), w9, w10, w11, w12]) (st' := [vI (iw (lw ((lw (q20.1.tdiv 65536)) - (lw (q20.1.tdiv 65536)).tdiv 8 * 8))), vR 137]) (g' := q22.2) k206_195 rfl rfl ?_
    refine q_s (pc' := 199) (ls' := [vR 137, vI l1, vI l2, vI l3, vL q22.1, vU, vI l6, vI (iw (lw ((lw (q20.1.tdiv 65536)) - (lw (q20.1.tdiv 65536)).tdiv 8 * 8))), vI (iw (lw ((lw (q21.1.tdiv 65536)) - (lw (q21.1.tdiv 65536)).tdiv 8 * 8))), w9, w10, w11, w12]) (st' := [vI (iw (lw ((lw (q21.1.tdiv 65536)) - (lw (q21.1.tdiv 65536)).tdiv 8 * 8))), vI (iw (lw ((lw (q20.1.tdiv 65536)) - (lw (q20.1.tdiv 65536)).tdiv 8 * 8))), vR 137]) (g' := q22.2) k206_197 rfl rfl ?_
    refine q_s (pc' := 201) (ls' := [vR 137, vI l1, vI l2, vI l3, vL q22.1, vU, vI l6, vI (iw (lw ((lw (q20.1.tdiv 65536)) - (lw (q20.1.tdiv 65536)).tdiv 8 * 8))), vI (iw (lw ((lw (q21.1.tdiv 65536)) - (lw (q21.1.tdiv 65536)).tdiv 8 * 8))), w9, w10, w11, w12]) (st' := [vL q22.1, vI (iw (lw ((lw (q21.1.tdiv 65536)) - (lw (q21.1.tdiv 65536)).tdiv 8 * 8))), vI (iw (lw ((lw (q20.1.tdiv 65536)) - (lw (q20.1.tdiv 65536)).tdiv 8 * 8))), vR 137]) (g' := q22.2) k206_199 rfl rfl ?_
    refine q_s (pc' := 204) (ls' := [vR 137, vI l1, vI l2, vI l3, vL q22.1, vU, vI l6, vI (iw (lw ((lw (q20.1.tdiv 65536)) - (lw (q20.1.tdiv 65536)).tdiv 8 * 8))), vI (iw (lw ((lw (q21.1.tdiv 65536)) - (lw (q21.1.tdiv 65536)).tdiv 8 * 8))), w9, w10, w11, w12]) (st' := [vL 65536, vL q22.1, vI (iw (lw ((lw (q21.1.tdiv 65536)) - (lw (q21.1.tdiv 65536)).tdiv 8 * 8))), vI (iw (lw ((lw (q20.1.tdiv 65536)) - (lw (q20.1.tdiv 65536)).tdiv 8 * 8))), vR 137]) (g' := q22.2) k206_201 rfl rfl ?_
    refine q_s (pc' := 205) (ls' := [vR 137, vI l1, vI l2, vI l3, vL q22.1, vU, vI l6, vI (iw (lw ((lw (q20.1.tdiv 65536)) - (lw (q20.1.tdiv 65536)).tdiv 8 * 8))), vI (iw (lw ((lw (q21.1.tdiv 65536)) - (lw (q21.1.tdiv 65536)).tdiv 8 * 8))), w9, w10, w11, w12]) (st' := [vL (lw (q22.1.tdiv 65536)), vI (iw (lw ((lw (q21.1.tdiv 65536)) - (lw (q21.1.tdiv 65536)).tdiv 8 * 8))), vI (iw (lw ((lw (q20.1.tdiv 65536)) - (lw (q20.1.tdiv 65536)).tdiv 8 * 8))), vR 137]) (g' := q22.2) k206_204 rfl rfl ?_
    refine q_s (pc' := 208) (ls' := [vR 137, vI l1, vI l2, vI l3, vL q22.1, vU, vI l6, vI (iw (lw ((lw (q20.1.tdiv 65536)) - (lw (q20.1.tdiv 65536)).tdiv 8 * 8))), vI (iw (lw ((lw (q21.1.tdiv 65536)) - (lw (q21.1.tdiv 65536)).tdiv 8 * 8))), w9, w10, w11, w12]) (st' := [vL 100, vL (lw (q22.1.tdiv 65536)), vI (iw (lw ((lw (q21.1.tdiv 65536)) - (lw (q21.1.tdiv 65536)).tdiv 8 * 8))), vI (iw (lw ((lw (q20.1.tdiv 65536)) - (lw (q20.1.tdiv 65536)).tdiv 8 * 8))), vR 137]) (g' := q22.2) k206_205 rfl rfl ?_
    refine q_s (pc' := 209) (ls' := [vR 137, vI l1, vI l2, vI l3, vL q22.1, vU, vI l6, vI (iw (lw ((lw (q20.1.tdiv 65536)) - (lw (q20.1.tdiv 65536)).tdiv 8 * 8))), vI (iw (lw ((lw (q21.1.tdiv 65536)) - (lw (q21.1.tdiv 65536)).tdiv 8 * 8))), w9, w10, w11, w12]) (st' := [vL (lw ((lw (q22.1.tdiv 65536)) - (lw (q22.1.tdiv 65536)).tdiv 100 * 100)), vI (iw (lw ((lw (q21.1.tdiv 65536)) - (lw (q21.1.tdiv 65536)).tdiv 8 * 8))), vI (iw (lw ((lw (q20.1.tdiv 65536)) - (lw (q20.1.tdiv 65536)).tdiv 8 * 8))), vR 137]) (g' := q22.2) k206_208 rfl rfl ?_
    refine q_s (pc' := 210) (ls' := [vR 137, vI l1, vI l2, vI l3, vL q22.1, vU, vI l6, vI (iw (lw ((lw (q20.1.tdiv 65536)) - (lw (q20.1.tdiv 65536)).tdiv 8 * 8))), vI (iw (lw ((lw (q21.1.tdiv 65536)) - (lw (q21.1.tdiv 65536)).tdiv 8 * 8))), w9, w10, w11, w12]) (st' := [vI (iw (lw ((lw (q22.1.tdiv 65536)) - (lw (q22.1.tdiv 65536)).tdiv 100 * 100))), vI (iw (lw ((lw (q21.1.tdiv 65536)) - (lw (q21.1.tdiv 65536)).tdiv 8 * 8))), vI (iw (lw ((lw (q20.1.tdiv 65536)) - (lw (q20.1.tdiv 65536)).tdiv 8 * 8))), vR 137]) (g' := q22.2) k206_209 rfl rfl ?_
    refine q_callI (ls0 := [vR 137, vI (iw (lw ((lw (q20.1.tdiv 65536)) - (lw (q20.1.tdiv 65536)).tdiv 8 * 8))), vI (iw (lw ((lw (q21.1.tdiv 65536)) - (lw (q21.1.tdiv 65536)).tdiv 8 * 8))), vI (iw (lw ((lw (q22.1.tdiv 65536)) - (lw (q22.1.tdiv 65536)).tdiv 100 * 100))), vU, vU]) (rest := []) (pc' := 213) rfl k206_210 rfl (hy4 rfl rfl rfl rfl) rfl rfl hq_156 rfl (fun q23 => ?_)
    refine q_s (pc' := 215) (ls' := [vR 137, vI l1, vI l2, vI l3, vL q22.1, vU, vI l6, vI (iw (lw ((lw (q20.1.tdiv 65536)) - (lw (q20.1.tdiv 65536)).tdiv 8 * 8))), vI (iw (lw ((lw (q21.1.tdiv 65536)) - (lw (q21.1.tdiv 65536)).tdiv 8 * 8))), vI q23.1, w10, w11, w12]) (st' := []) (g' := q23.2) k206_213 rfl rfl ?_
    refine q_s (pc' := 216) (ls' := [vR 137, vI l1, vI l2, vI l3, vL q22.1, vU, vI l6, vI (iw (lw ((lw (q20.1.tdiv 65536)) - (lw (q20.1.tdiv 65536)).tdiv 8 * 8))), vI (iw (lw ((lw (q21.1.tdiv 65536)) - (lw (q21.1.tdiv 65536)).tdiv 8 * 8))), vI q23.1, w10, w11, w12]) (st' := [vI 0]) (g' := q23.2) k206_215 rfl rfl ?_
    refine q_s (pc' := 218) (ls' := [vR 137, vI l1, vI l2, vI l3, vL q22.1, vU, vI l6, vI (iw (lw ((lw (q20.1.tdiv 65536)) - (lw (q20.1.tdiv 65536)).tdiv 8 * 8))), vI (iw (lw ((lw (q21.1.tdiv 65536)) - (lw (q21.1.tdiv 65536)).tdiv 8 * 8))), vI q23.1, vI 0, w11, w12]) (st' := []) (g' := q23.2) k206_216 rfl rfl ?_
    rfl
set_option maxHeartbeats 4000000 in
theorem jM_draw_218_eq (L : Nat) (l1 : Int) (l2 : Int) (l3 : Int) (l4 : Int) (l6 : Int) (l7 : Int) (l8 : Int) (l9 : Int) (l10 : Int) (w11 : AVal) (w12 : AVal) (g : AMem) : jM_draw_218 L l1 l2 l3 l4 l6 l7 l8 l9 l10 w11 w12 g = if l2 ≤ l10 then (jM_draw_141 L l1 l2 l3 l4 (iw (l6 + 1)) (vI l7) (vI l8) (vI l9) (vI l10) w11 w12 g) else ((jM_next L l4 g).bind (fun q25 => if iw (lw ((lw (q25.1.tdiv 65536)) - (lw (q25.1.tdiv 65536)).tdiv 8 * 8)) ≠ 7 then ((jM_parameterOf L l9 l10 q25.2).bind (fun q27 => (jM_widthOf L q27.1 q27.2).bind (fun q28 => if 0 ≤ iw ((iw (6 * l9)) + l10) ∧ iw ((iw (6 * l9)) + l10) < 96 then (jM_draw_218 L l1 l2 l3 q25.1 l6 l7 l8 l9 (iw (l10 + 1)) (vI (iw (lw ((lw (q25.1.tdiv 65536)) - (lw (q25.1.tdiv 65536)).tdiv 8 * 8)))) (vI (iw (lw ((lw (q25.1.tdiv 1024)) - (lw (q25.1.tdiv 1024)).tdiv 100 * 100)))) (up q28.2 144 (iw ((iw (6 * l9)) + l10)) (iw ((iw (40 * (iw (lw ((lw (q25.1.tdiv 65536)) - (lw (q25.1.tdiv 65536)).tdiv 8 * 8))))) + q28.1)))) else none))) else (if 0 ≤ iw ((iw (6 * l9)) + l10) ∧ iw ((iw (6 * l9)) + l10) < 96 then (jM_draw_218 L l1 l2 l3 q25.1 l6 l7 l8 l9 (iw (l10 + 1)) (vI (iw (lw ((lw (q25.1.tdiv 65536)) - (lw (q25.1.tdiv 65536)).tdiv 8 * 8)))) (vI (iw (lw ((lw (q25.1.tdiv 1024)) - (lw (q25.1.tdiv 1024)).tdiv 100 * 100)))) (up q25.2 144 (iw ((iw (6 * l9)) + l10)) (iw ((-1) - (iw (lw ((lw (q25.1.tdiv 1024)) - (lw (q25.1.tdiv 1024)).tdiv 100 * 100))))))) else none))) := by
  unfold jM_draw_218
  refine q_s (pc' := 220) (ls' := [vR 137, vI l1, vI l2, vI l3, vL l4, vU, vI l6, vI l7, vI l8, vI l9, vI l10, w11, w12]) (st' := [vI l10]) (g' := g) k206_218 rfl rfl ?_
  refine q_s (pc' := 221) (ls' := [vR 137, vI l1, vI l2, vI l3, vL l4, vU, vI l6, vI l7, vI l8, vI l9, vI l10, w11, w12]) (st' := [vI l2, vI l10]) (g' := g) k206_220 rfl rfl ?_
  refine q_ic (P := l2 ≤ l10) (t := 307) (pc' := 224) k206_221 Iff.rfl rfl rfl (fun h24 => ?_) (fun h24 => ?_)
  · refine q_s (pc' := 310) (ls' := [vR 137, vI l1, vI l2, vI l3, vL l4, vU, vI (iw (l6 + 1)), vI l7, vI l8, vI l9, vI l10, w11, w12]) (st' := []) (g' := g) k206_307 rfl rfl ?_
    refine q_s (pc' := 141) (ls' := [vR 137, vI l1, vI l2, vI l3, vL l4, vU, vI (iw (l6 + 1)), vI l7, vI l8, vI l9, vI l10, w11, w12]) (st' := []) (g' := g) k206_310 rfl rfl ?_
    rfl
  · refine q_s (pc' := 226) (ls' := [vR 137, vI l1, vI l2, vI l3, vL l4, vU, vI l6, vI l7, vI l8, vI l9, vI l10, w11, w12]) (st' := [vL l4]) (g' := g) k206_224 rfl rfl ?_
    refine q_callL (ls0 := [vL l4, vU]) (rest := []) (pc' := 229) rfl k206_226 rfl (hy4 rfl rfl rfl rfl) rfl rfl hq_197 rfl (fun q25 => ?_)
    refine q_s (pc' := 231) (ls' := [vR 137, vI l1, vI l2, vI l3, vL q25.1, vU, vI l6, vI l7, vI l8, vI l9, vI l10, w11, w12]) (st' := []) (g' := q25.2) k206_229 rfl rfl ?_
    refine q_s (pc' := 233) (ls' := [vR 137, vI l1, vI l2, vI l3, vL q25.1, vU, vI l6, vI l7, vI l8, vI l9, vI l10, w11, w12]) (st' := [vL q25.1]) (g' := q25.2) k206_231 rfl rfl ?_
    refine q_s (pc' := 236) (ls' := [vR 137, vI l1, vI l2, vI l3, vL q25.1, vU, vI l6, vI l7, vI l8, vI l9, vI l10, w11, w12]) (st' := [vL 65536, vL q25.1]) (g' := q25.2) k206_233 rfl rfl ?_
    refine q_s (pc' := 237) (ls' := [vR 137, vI l1, vI l2, vI l3, vL q25.1, vU, vI l6, vI l7, vI l8, vI l9, vI l10, w11, w12]) (st' := [vL (lw (q25.1.tdiv 65536))]) (g' := q25.2) k206_236 rfl rfl ?_
    refine q_s (pc' := 240) (ls' := [vR 137, vI l1, vI l2, vI l3, vL q25.1, vU, vI l6, vI l7, vI l8, vI l9, vI l10, w11, w12]) (st' := [vL 8, vL (lw (q25.1.tdiv 65536))]) (g' := q25.2) k206_237 rfl rfl ?_
    refine q_s (pc' := 241) (ls' := [vR 137, vI l1, vI l2, vI l3, vL q25.1, vU, vI l6, vI l7, vI l8, vI l9, vI l10, w11, w12]) (st' := [vL (lw ((lw (q25.1.tdiv 65536)) - (lw (q25.1.tdiv 65536)).tdiv 8 * 8))]) (g' := q25.2) k206_240 rfl rfl ?_
    refine q_s (pc' := 242) (ls' := [vR 137, vI l1, vI l2, vI l3, vL q25.1, vU, vI l6, vI l7, vI l8, vI l9, vI l10, w11, w12]) (st' := [vI (iw (lw ((lw (q25.1.tdiv 65536)) - (lw (q25.1.tdiv 65536)).tdiv 8 * 8)))]) (g' := q25.2) k206_241 rfl rfl ?_
    refine q_s (pc' := 244) (ls' := [vR 137, vI l1, vI l2, vI l3, vL q25.1, vU, vI l6, vI l7, vI l8, vI l9, vI l10, vI (iw (lw ((lw (q25.1.tdiv 65536)) - (lw (q25.1.tdiv 65536)).tdiv 8 * 8))), w12]) (st' := []) (g' := q25.2) k206_242 rfl rfl ?_
    refine q_s (pc' := 246) (ls' := [vR 137, vI l1, vI l2, vI l3, vL q25.1, vU, vI l6, vI l7, vI l8, vI l9, vI l10, vI (iw (lw ((lw (q25.1.tdiv 65536)) - (lw (q25.1.tdiv 65536)).tdiv 8 * 8))), w12]) (st' := [vL q25.1]) (g' := q25.2) k206_244 rfl rfl ?_
    refine q_s (pc' := 249) (ls' := [vR 137, vI l1, vI l2, vI l3, vL q25.1, vU, vI l6, vI l7, vI l8, vI l9, vI l10, vI (iw (lw ((lw (q25.1.tdiv 65536)) - (lw (q25.1.tdiv 65536)).tdiv 8 * 8))), w12]) (st' := [vL 1024, vL q25.1]) (g' := q25.2) k206_246 rfl rfl ?_
    refine q_s (pc' := 250) (ls' := [vR 137, vI l1, vI l2, vI l3, vL q25.1, vU, vI l6, vI l7, vI l8, vI l9, vI l10, vI (iw (lw ((lw (q25.1.tdiv 65536)) - (lw (q25.1.tdiv 65536)).tdiv 8 * 8))), w12]) (st' := [vL (lw (q25.1.tdiv 1024))]) (g' := q25.2) k206_249 rfl rfl ?_
    refine q_s (pc' := 253) (ls' := [vR 137, vI l1, vI l2, vI l3, vL q25.1, vU, vI l6, vI l7, vI l8, vI l9, vI l10, vI (iw (lw ((lw (q25.1.tdiv 65536)) - (lw (q25.1.tdiv 65536)).tdiv 8 * 8))), w12]) (st' := [vL 100, vL (lw (q25.1.tdiv 1024))]) (g' := q25.2) k206_250 rfl rfl ?_
    refine q_s (pc' := 254) (ls' := [vR 137, vI l1, vI l2, vI l3, vL q25.1, vU, vI l6, vI l7, vI l8, vI l9, vI l10, vI (iw (lw ((lw (q25.1.tdiv 65536)) - (lw (q25.1.tdiv 65536)).tdiv 8 * 8))), w12]) (st' := [vL (lw ((lw (q25.1.tdiv 1024)) - (lw (q25.1.tdiv 1024)).tdiv 100 * 100))]) (g' := q25.2) k206_253 rfl rfl ?_
    refine q_s (pc' := 255) (ls' := [vR 137, vI l1, vI l2, vI l3, vL q25.1, vU, vI l6, vI l7, vI l8, vI l9, vI l10, vI (iw (lw ((lw (q25.1.tdiv 65536)) - (lw (q25.1.tdiv 65536)).tdiv 8 * 8))), w12]) (st' := [vI (iw (lw ((lw (q25.1.tdiv 1024)) - (lw (q25.1.tdiv 1024)).tdiv 100 * 100)))]) (g' := q25.2) k206_254 rfl rfl ?_
    refine q_s (pc' := 257) (ls' := [vR 137, vI l1, vI l2, vI l3, vL q25.1, vU, vI l6, vI l7, vI l8, vI l9, vI l10, vI (iw (lw ((lw (q25.1.tdiv 65536)) - (lw (q25.1.tdiv 65536)).tdiv 8 * 8))), vI (iw (lw ((lw (q25.1.tdiv 1024)) - (lw (q25.1.tdiv 1024)).tdiv 100 * 100)))]) (st' := []) (g' := q25.2) k206_255 rfl rfl ?_
    refine q_s (pc' := 258) (ls' := [vR 137, vI l1, vI l2, vI l3, vL q25.1, vU, vI l6, vI l7, vI l8, vI l9, vI l10, vI (iw (lw ((lw (q25.1.tdiv 65536)) - (lw (q25.1.tdiv 65536)).tdiv 8 * 8))), vI (iw (lw ((lw (q25.1.tdiv 1024)) - (lw (q25.1.tdiv 1024)).tdiv 100 * 100)))]) (st' := [vR 137]) (g' := q25.2) k206_257 rfl rfl ?_
    refine q_getF (r := 144) (pc' := 261) k206_258 rfl rfl rfl rfl ?_
    refine q_s (pc' := 263) (ls' := [vR 137, vI l1, vI l2, vI l3, vL q25.1, vU, vI l6, vI l7, vI l8, vI l9, vI l10, vI (iw (lw ((lw (q25.1.tdiv 65536)) - (lw (q25.1.tdiv 65536)).tdiv 8 * 8))), vI (iw (lw ((lw (q25.1.tdiv 1024)) - (lw (q25.1.tdiv 1024)).tdiv 100 * 100)))]) (st' := [vI 6, vR 144]) (g' := q25.2) k206_261 rfl rfl ?_
    refine q_s (pc' := 265) (ls' := [vR 137, vI l1, vI l2, vI l3, vL q25.1, vU, vI l6, vI l7, vI l8, vI l9, vI l10, vI (iw (lw ((lw (q25.1.tdiv 65536)) - (lw (q25.1.tdiv 65536)).tdiv 8 * 8))), vI (iw (lw ((lw (q25.1.tdiv 1024)) - (lw (q25.1.tdiv 1024)).tdiv 100 * 100)))]) (st' := [vI l9, vI 6, vR 144]) (g' := q25.2) k206_263 rfl rfl ?_
    refine q_s (pc' := 266) (ls' := [vR 137, vI l1, vI l2, vI l3, vL q25.1, vU, vI l6, vI l7, vI l8, vI l9, vI l10, vI (iw (lw ((lw (q25.1.tdiv 65536)) - (lw (q25.1.tdiv 65536)).tdiv 8 * 8))), vI (iw (lw ((lw (q25.1.tdiv 1024)) - (lw (q25.1.tdiv 1024)).tdiv 100 * 100)))]) (st' := [vI (iw (6 * l9)), vR 144]) (g' := q25.2) k206_265 rfl rfl ?_
    refine q_s (pc' := 268) (ls' := [vR 137, vI l1, vI l2, vI l3, vL q25.1, vU, vI l6, vI l7, vI l8, vI l9, vI l10, vI (iw (lw ((lw (q25.1.tdiv 65536)) - (lw (q25.1.tdiv 65536)).tdiv 8 * 8))), vI (iw (lw ((lw (q25.1.tdiv 1024)) - (lw (q25.1.tdiv 1024)).tdiv 100 * 100)))]) (st' := [vI l10, vI (iw (6 * l9)), vR 144]) (g' := q25.2) k206_266 rfl rfl ?_
    refine q_s (pc' := 269) (ls' := [vR 137, vI l1, vI l2, vI l3, vL q25.1, vU, vI l6, vI l7, vI l8, vI l9, vI l10, vI (iw (lw ((lw (q25.1.tdiv 65536)) - (lw (q25.1.tdiv 65536)).tdiv 8 * 8))), vI (iw (lw ((lw (q25.1.tdiv 1024)) - (lw (q25.1.tdiv 1024)).tdiv 100 * 100)))]) (st' := [vI (iw ((iw (6 * l9)) + l10)), vR 144]) (g' := q25.2) k206_268 rfl rfl ?_
    refine q_s (pc' := 271) (ls' := [vR 137, vI l1, vI l2, vI l3, vL q25.1, vU, vI l6, vI l7, vI l8, vI l9, vI l10, vI (iw (lw ((lw (q25.1.tdiv 65536)) - (lw (q25.1.tdiv 65536)).tdiv 8 * 8))), vI (iw (lw ((lw (q25.1.tdiv 1024)) - (lw (q25.1.tdiv 1024)).tdiv 100 * 100)))]) (st' := [vI (iw (lw ((lw (q25.1.tdiv 65536)) - (lw (q25.1.tdiv 65536)).tdiv 8 * 8))), vI (iw ((iw (6 * l9)) + l10)), vR 144]) (g' := q25.2) k206_269 rfl rfl ?_
    refine q_s (pc' := 273) (ls' := [vR 137, vI l1, vI l2, vI l3, vL q25.1, vU, vI l6, vI l7, vI l8, vI l9, vI l10, vI (iw (lw ((lw (q25.1.tdiv 65536)) - (lw (q25.1.tdiv 65536)).tdiv 8 * 8))), vI (iw (lw ((lw (q25.1.tdiv 1024)) - (lw (q25.1.tdiv 1024)).tdiv 100 * 100)))]) (st' := [vI 7, vI (iw (lw ((lw (q25.1.tdiv 65536)) - (lw (q25.1.tdiv 65536)).tdiv 8 * 8))), vI (iw ((iw (6 * l9)) + l10)), vR 144]) (g' := q25.2) k206_271 rfl rfl ?_
    refine q_ic (P := iw (lw ((lw (q25.1.tdiv 65536)) - (lw (q25.1.tdiv 65536)).tdiv 8 * 8)) ≠ 7) (t := 283) (pc' := 276) k206_273 Iff.rfl rfl rfl (fun h26 => ?_) (fun h26 => ?_)
    · refine q_s (pc' := 285) (ls' := [vR 137, vI l1, vI l2, vI l3, vL q25.1, vU, vI l6, vI l7, vI l8, vI l9, vI l10, vI (iw (lw ((lw (q25.1.tdiv 65536)) - (lw (q25.1.tdiv 65536)).tdiv 8 * 8))), vI (iw (lw ((lw (q25.1.tdiv 1024)) - (lw (q25.1.tdiv 1024)).tdiv 100 * 100)))]) (st' := [vI 40, vI (iw ((iw (6 * l9)) + l10)), vR 144]) (g' := q25.2) k206_283 rfl rfl ?_
      refine q_s (pc' := 287) (ls' := [vR 137, vI l1, vI l2, vI l3, vL q25.1, vU, vI l6, vI l7, vI l8, vI l9, vI l10, vI (iw (lw ((lw (q25.1.tdiv 65536)) - (lw (q25.1.tdiv 65536)).tdiv 8 * 8))), vI (iw (lw ((lw (q25.1.tdiv 1024)) - (lw (q25.1.tdiv 1024)).tdiv 100 * 100)))]) (st' := [vI (iw (lw ((lw (q25.1.tdiv 65536)) - (lw (q25.1.tdiv 65536)).tdiv 8 * 8))), vI 40, vI (iw ((iw (6 * l9)) + l10)), vR 144]) (g' := q25.2) k206_285 rfl rfl ?_
      refine q_s (pc' := 288) (ls' := [vR 137, vI l1, vI l2, vI l3, vL q25.1, vU, vI l6, vI l7, vI l8, vI l9, vI l10, vI (iw (lw ((lw (q25.1.tdiv 65536)) - (lw (q25.1.tdiv 65536)).tdiv 8 * 8))), vI (iw (lw ((lw (q25.1.tdiv 1024)) - (lw (q25.1.tdiv 1024)).tdiv 100 * 100)))]) (st' := [vI (iw (40 * (iw (lw ((lw (q25.1.tdiv 65536)) - (lw (q25.1.tdiv 65536)).tdiv 8 * 8))))), vI (iw ((iw (6 * l9)) + l10)), vR 144]) (g' := q25.2) k206_287 rfl rfl ?_
      refine q_s (pc' := 289) (ls' := [vR 137, vI l1, vI l2, vI l3, vL q25.1, vU, vI l6, vI l7, vI l8, vI l9, vI l10, vI (iw (lw ((lw (q25.1.tdiv 65536)) - (lw (q25.1.tdiv 65536)).tdiv 8 * 8))), vI (iw (lw ((lw (q25.1.tdiv 1024)) - (lw (q25.1.tdiv 1024)).tdiv 100 * 100)))]) (st' := [vR 137, vI (iw (40 * (iw (lw ((lw (q25.1.tdiv 65536)) - (lw (q25.1.tdiv 65536)).tdiv 8 * 8))))), vI (iw ((iw (6 * l9)) + l10)), vR 144]) (g' := q25.2) k206_288 rfl rfl ?_
      refine q_s (pc' := 291) (ls' := [vR 137, vI l1, vI l2, vI l3, vL q25.1, vU, vI l6, vI l7, vI l8, vI l9, vI l10, vI (iw (lw ((lw (q25.1.tdiv 65536)) - (lw (q25.1.tdiv 65536)).tdiv 8 * 8))), vI (iw (lw ((lw (q25.1.tdiv 1024)) - (lw (q25.1.tdiv 1024)).tdiv 100 * 100)))]) (st' := [vI l9, vR 137, vI (iw (40 * (iw (lw ((lw (q25.1.tdiv 65536)) - (lw (q25.1.tdiv 65536)).tdiv 8 * 8))))), vI (iw ((iw (6 * l9)) + l10)), vR 144]) (g' := q25.2) k206_289 rfl rfl ?_
      refine q_s (pc' := 293) (ls' := [vR 137, vI l1, vI l2, vI l3, vL q25.1, vU, vI l6, vI l7, vI l8, vI l9, vI l10, vI (iw (lw ((lw (q25.1.tdiv 65536)) - (lw (q25.1.tdiv 65536)).tdiv 8 * 8))), vI (iw (lw ((lw (q25.1.tdiv 1024)) - (lw (q25.1.tdiv 1024)).tdiv 100 * 100)))]) (st' := [vI l10, vI l9, vR 137, vI (iw (40 * (iw (lw ((lw (q25.1.tdiv 65536)) - (lw (q25.1.tdiv 65536)).tdiv 8 * 8))))), vI (iw ((iw (6 * l9)) + l10)), vR 144]) (g' := q25.2) k206_291 rfl rfl ?_
      refine q_callI (ls0 := [vR 137, vI l9, vI l10]) (rest := [vI (iw (40 * (iw (lw ((lw (q25.1.tdiv 65536)) - (lw (q25.1.tdiv 65536)).tdiv 8 * 8))))), vI (iw ((iw (6 * l9)) + l10)), vR 144]) (pc' := 296) rfl k206_293 rfl (hy4 rfl rfl rfl rfl) rfl rfl hq_147 rfl (fun q27 => ?_)
      refine q_callI (ls0 := [vI q27.1]) (rest := [vI (iw (40 * (iw (lw ((lw (q25.1.tdiv 65536)) - (lw (q25.1.tdiv 65536)).tdiv 8 * 8))))), vI (iw ((iw (6 * l9)) + l10)), vR 144]) (pc' := 299) rfl k206_296 rfl (hy4 rfl rfl rfl rfl) rfl rfl hq_139 rfl (fun q28 => ?_)
      refine q_s (pc' := 300) (ls' := [vR 137, vI l1, vI l2, vI l3, vL q25.1, vU, vI l6, vI l7, vI l8, vI l9, vI l10, vI (iw (lw ((lw (q25.1.tdiv 65536)) - (lw (q25.1.tdiv 65536)).tdiv 8 * 8))), vI (iw (lw ((lw (q25.1.tdiv 1024)) - (lw (q25.1.tdiv 1024)).tdiv 100 * 100)))]) (st' := [vI (iw ((iw (40 * (iw (lw ((lw (q25.1.tdiv 65536)) - (lw (q25.1.tdiv 65536)).tdiv 8 * 8))))) + q28.1)), vI (iw ((iw (6 * l9)) + l10)), vR 144]) (g' := q28.2) k206_299 rfl rfl ?_
      refine q_iast (n := 96) (pc' := 301) rfl k206_300 rfl (by decide) rfl (fun h29 => ?_)
      refine q_s (pc' := 304) (ls' := [vR 137, vI l1, vI l2, vI l3, vL q25.1, vU, vI l6, vI l7, vI l8, vI l9, vI (iw (l10 + 1)), vI (iw (lw ((lw (q25.1.tdiv 65536)) - (lw (q25.1.tdiv 65536)).tdiv 8 * 8))), vI (iw (lw ((lw (q25.1.tdiv 1024)) - (lw (q25.1.tdiv 1024)).tdiv 100 * 100)))]) (st' := []) (g' := up q28.2 144 (iw ((iw (6 * l9)) + l10)) (iw ((iw (40 * (iw (lw ((lw (q25.1.tdiv 65536)) - (lw (q25.1.tdiv 65536)).tdiv 8 * 8))))) + q28.1))) k206_301 rfl rfl ?_
      refine q_s (pc' := 218) (ls' := [vR 137, vI l1, vI l2, vI l3, vL q25.1, vU, vI l6, vI l7, vI l8, vI l9, vI (iw (l10 + 1)), vI (iw (lw ((lw (q25.1.tdiv 65536)) - (lw (q25.1.tdiv 65536)).tdiv 8 * 8))), vI (iw (lw ((lw (q25.1.tdiv 1024)) - (lw (q25.1.tdiv 1024)).tdiv 100 * 100)))]) (st' := []) (g' := up q28.2 144 (iw ((iw (6 * l9)) + l10)) (iw ((iw (40 * (iw (lw ((lw (q25.1.tdiv 65536)) - (lw (q25.1.tdiv 65536)).tdiv 8 * 8))))) + q28.1))) k206_304 rfl rfl ?_
      rfl
    · refine q_s (pc' := 277) (ls' := [vR 137, vI l1, vI l2, vI l3, vL q25.1, vU, vI l6, vI l7, vI l8, vI l9, vI l10, vI (iw (lw ((lw (q25.1.tdiv 65536)) - (lw (q25.1.tdiv 65536)).tdiv 8 * 8))), vI (iw (lw ((lw (q25.1.tdiv 1024)) - (lw (q25.1.tdiv 1024)).tdiv 100 * 100)))]) (st' := [vI (-1), vI (iw ((iw (6 * l9)) + l10)), vR 144]) (g' := q25.2) k206_276 rfl rfl ?_
      refine q_s (pc' := 279) (ls' := [vR 137, vI l1, vI l2, vI l3, vL q25.1, vU, vI l6, vI l7, vI l8, vI l9, vI l10, vI (iw (lw ((lw (q25.1.tdiv 65536)) - (lw (q25.1.tdiv 65536)).tdiv 8 * 8))), vI (iw (lw ((lw (q25.1.tdiv 1024)) - (lw (q25.1.tdiv 1024)).tdiv 100 * 100)))]) (st' := [vI (iw (lw ((lw (q25.1.tdiv 1024)) - (lw (q25.1.tdiv 1024)).tdiv 100 * 100))), vI (-1), vI (iw ((iw (6 * l9)) + l10)), vR 144]) (g' := q25.2) k206_277 rfl rfl ?_
      refine q_s (pc' := 280) (ls' := [vR 137, vI l1, vI l2, vI l3, vL q25.1, vU, vI l6, vI l7, vI l8, vI l9, vI l10, vI (iw (lw ((lw (q25.1.tdiv 65536)) - (lw (q25.1.tdiv 65536)).tdiv 8 * 8))), vI (iw (lw ((lw (q25.1.tdiv 1024)) - (lw (q25.1.tdiv 1024)).tdiv 100 * 100)))]) (st' := [vI (iw ((-1) - (iw (lw ((lw (q25.1.tdiv 1024)) - (lw (q25.1.tdiv 1024)).tdiv 100 * 100))))), vI (iw ((iw (6 * l9)) + l10)), vR 144]) (g' := q25.2) k206_279 rfl rfl ?_
      refine q_s (pc' := 300) (ls' := [vR 137, vI l1, vI l2, vI l3, vL q25.1, vU, vI l6, vI l7, vI l8, vI l9, vI l10, vI (iw (lw ((lw (q25.1.tdiv 65536)) - (lw (q25.1.tdiv 65536)).tdiv 8 * 8))), vI (iw (lw ((lw (q25.1.tdiv 1024)) - (lw (q25.1.tdiv 1024)).tdiv 100 * 100)))]) (st' := [vI (iw ((-1) - (iw (lw ((lw (q25.1.tdiv 1024)) - (lw (q25.1.tdiv 1024)).tdiv 100 * 100))))), vI (iw ((iw (6 * l9)) + l10)), vR 144]) (g' := q25.2) k206_280 rfl rfl ?_
      refine q_iast (n := 96) (pc' := 301) rfl k206_300 rfl (by decide) rfl (fun h30 => ?_)
      refine q_s (pc' := 304) (ls' := [vR 137, vI l1, vI l2, vI l3, vL q25.1, vU, vI l6, vI l7, vI l8, vI l9, vI (iw (l10 + 1)), vI (iw (lw ((lw (q25.1.tdiv 65536)) - (lw (q25.1.tdiv 65536)).tdiv 8 * 8))), vI (iw (lw ((lw (q25.1.tdiv 1024)) - (lw (q25.1.tdiv 1024)).tdiv 100 * 100)))]) (st' := []) (g' := up q25.2 144 (iw ((iw (6 * l9)) + l10)) (iw ((-1) - (iw (lw ((lw (q25.1.tdiv 1024)) - (lw (q25.1.tdiv 1024)).tdiv 100 * 100)))))) k206_301 rfl rfl ?_
      refine q_s (pc' := 218) (ls' := [vR 137, vI l1, vI l2, vI l3, vL q25.1, vU, vI l6, vI l7, vI l8, vI l9, vI (iw (l10 + 1)), vI (iw (lw ((lw (q25.1.tdiv 65536)) - (lw (q25.1.tdiv 65536)).tdiv 8 * 8))), vI (iw (lw ((lw (q25.1.tdiv 1024)) - (lw (q25.1.tdiv 1024)).tdiv 100 * 100)))]) (st' := []) (g' := up q25.2 144 (iw ((iw (6 * l9)) + l10)) (iw ((-1) - (iw (lw ((lw (q25.1.tdiv 1024)) - (lw (q25.1.tdiv 1024)).tdiv 100 * 100)))))) k206_304 rfl rfl ?_
      rfl
set_option maxHeartbeats 4000000 in
theorem jM_tells_eq (L : Nat) (a1 : Int) (g : AMem) : jM_tells L a1 g = if 3 ≤ a1 then (if a1 ≠ 3 then (if a1 ≠ 4 then (if a1 ≠ 5 then (some (g 137 3, g)) else (some (g 137 2, g))) else (some (g 137 1, g))) else (some (g 137 24, g))) else (if 0 ≤ a1 ∧ a1 < 3 then (some (g 138 a1, g)) else none) := by
  unfold jM_tells
  refine q_s (pc' := 1) (ls' := [vR 137, vI a1]) (st' := [vI a1]) (g' := g) k207_0 rfl rfl ?_
  refine q_s (pc' := 2) (ls' := [vR 137, vI a1]) (st' := [vI 3, vI a1]) (g' := g) k207_1 rfl rfl ?_
  refine q_ic (P := 3 ≤ a1) (t := 14) (pc' := 5) k207_2 Iff.rfl rfl rfl (fun h1 => ?_) (fun h1 => ?_)
  · refine q_s (pc' := 15) (ls' := [vR 137, vI a1]) (st' := [vI a1]) (g' := g) k207_14 rfl rfl ?_
    refine q_s (pc' := 16) (ls' := [vR 137, vI a1]) (st' := [vI 3, vI a1]) (g' := g) k207_15 rfl rfl ?_
    refine q_ic (P := a1 ≠ 3) (t := 26) (pc' := 19) k207_16 Iff.rfl rfl rfl (fun h2 => ?_) (fun h2 => ?_)
    · refine q_s (pc' := 27) (ls' := [vR 137, vI a1]) (st' := [vI a1]) (g' := g) k207_26 rfl rfl ?_
      refine q_s (pc' := 28) (ls' := [vR 137, vI a1]) (st' := [vI 4, vI a1]) (g' := g) k207_27 rfl rfl ?_
      refine q_ic (P := a1 ≠ 4) (t := 38) (pc' := 31) k207_28 Iff.rfl rfl rfl (fun h3 => ?_) (fun h3 => ?_)
      · refine q_s (pc' := 39) (ls' := [vR 137, vI a1]) (st' := [vI a1]) (g' := g) k207_38 rfl rfl ?_
        refine q_s (pc' := 40) (ls' := [vR 137, vI a1]) (st' := [vI 5, vI a1]) (g' := g) k207_39 rfl rfl ?_
        refine q_ic (P := a1 ≠ 5) (t := 50) (pc' := 43) k207_40 Iff.rfl rfl rfl (fun h4 => ?_) (fun h4 => ?_)
        · refine q_s (pc' := 51) (ls' := [vR 137, vI a1]) (st' := [vR 137]) (g' := g) k207_50 rfl rfl ?_
          refine q_getI (w := 3) (pc' := 54) k207_51 rfl rfl rfl rfl ?_
          exact q_e k207_54 rfl rfl rfl
        · refine q_s (pc' := 44) (ls' := [vR 137, vI a1]) (st' := [vR 137]) (g' := g) k207_43 rfl rfl ?_
          refine q_getI (w := 2) (pc' := 47) k207_44 rfl rfl rfl rfl ?_
          refine q_s (pc' := 54) (ls' := [vR 137, vI a1]) (st' := [vI (g 137 2)]) (g' := g) k207_47 rfl rfl ?_
          exact q_e k207_54 rfl rfl rfl
      · refine q_s (pc' := 32) (ls' := [vR 137, vI a1]) (st' := [vR 137]) (g' := g) k207_31 rfl rfl ?_
        refine q_getI (w := 1) (pc' := 35) k207_32 rfl rfl rfl rfl ?_
        refine q_s (pc' := 54) (ls' := [vR 137, vI a1]) (st' := [vI (g 137 1)]) (g' := g) k207_35 rfl rfl ?_
        exact q_e k207_54 rfl rfl rfl
    · refine q_s (pc' := 20) (ls' := [vR 137, vI a1]) (st' := [vR 137]) (g' := g) k207_19 rfl rfl ?_
      refine q_getI (w := 24) (pc' := 23) k207_20 rfl rfl rfl rfl ?_
      refine q_s (pc' := 54) (ls' := [vR 137, vI a1]) (st' := [vI (g 137 24)]) (g' := g) k207_23 rfl rfl ?_
      exact q_e k207_54 rfl rfl rfl
  · refine q_s (pc' := 6) (ls' := [vR 137, vI a1]) (st' := [vR 137]) (g' := g) k207_5 rfl rfl ?_
    refine q_getF (r := 138) (pc' := 9) k207_6 rfl rfl rfl rfl ?_
    refine q_s (pc' := 10) (ls' := [vR 137, vI a1]) (st' := [vI a1, vR 138]) (g' := g) k207_9 rfl rfl ?_
    refine q_iald (n := 3) (pc' := 11) rfl k207_10 rfl rfl (fun h5 => ?_)
    refine q_s (pc' := 54) (ls' := [vR 137, vI a1]) (st' := [vI (g 138 a1)]) (g' := g) k207_11 rfl rfl ?_
    exact q_e k207_54 rfl rfl rfl
set_option maxHeartbeats 4000000 in
theorem jM_told_eq (L : Nat) (a1 : Int) (g : AMem) : jM_told L a1 g = (jM_in L a1 0 6 g).bind (fun q1 => if q1.1 = 0 then ((jM_bad L q1.2).bind (fun q3 => some (q3.1, q3.2))) else ((jM_tells L a1 q1.2).bind (fun q4 => some (q4.1, q4.2)))) := by
  unfold jM_told
  refine q_s (pc' := 1) (ls' := [vR 137, vI a1]) (st' := [vI a1]) (g' := g) k208_0 rfl rfl ?_
  refine q_s (pc' := 2) (ls' := [vR 137, vI a1]) (st' := [vI 0, vI a1]) (g' := g) k208_1 rfl rfl ?_
  refine q_s (pc' := 4) (ls' := [vR 137, vI a1]) (st' := [vI 6, vI 0, vI a1]) (g' := g) k208_2 rfl rfl ?_
  refine q_callI (ls0 := [vI a1, vI 0, vI 6]) (rest := []) (pc' := 7) rfl k208_4 rfl (hy4 rfl rfl rfl rfl) rfl rfl hq_138 rfl (fun q1 => ?_)
  refine q_if (P := q1.1 = 0) (t := 18) (pc' := 10) k208_7 Iff.rfl rfl rfl (fun h2 => ?_) (fun h2 => ?_)
  · refine q_s (pc' := 19) (ls' := [vR 137, vI a1]) (st' := [vR 137]) (g' := q1.2) k208_18 rfl rfl ?_
    refine q_callI (ls0 := [vR 137]) (rest := []) (pc' := 22) rfl k208_19 rfl (hy4 rfl rfl rfl rfl) rfl rfl hq_135 rfl (fun q3 => ?_)
    exact q_e k208_22 rfl rfl rfl
  · refine q_s (pc' := 11) (ls' := [vR 137, vI a1]) (st' := [vR 137]) (g' := q1.2) k208_10 rfl rfl ?_
    refine q_s (pc' := 12) (ls' := [vR 137, vI a1]) (st' := [vI a1, vR 137]) (g' := q1.2) k208_11 rfl rfl ?_
    refine q_callI (ls0 := [vR 137, vI a1]) (rest := []) (pc' := 15) rfl k208_12 rfl (hy4 rfl rfl rfl rfl) rfl rfl hq_207 rfl (fun q4 => ?_)
    refine q_s (pc' := 22) (ls' := [vR 137, vI a1]) (st' := [vI q4.1]) (g' := q4.2) k208_15 rfl rfl ?_
    exact q_e k208_22 rfl rfl rfl
set_option maxHeartbeats 4000000 in
theorem jM_digest_eq (L : Nat) (g : AMem) : jM_digest L g = jM_digest_6 L 1913 0 g := by
  unfold jM_digest
  refine q_s (pc' := 3) (ls' := [vR 137, vU, vU, vU, vU]) (st' := [vL 1913]) (g' := g) k209_0 rfl rfl ?_
  refine q_s (pc' := 4) (ls' := [vR 137, vL 1913, vU, vU, vU]) (st' := []) (g' := g) k209_3 rfl rfl ?_
  refine q_s (pc' := 5) (ls' := [vR 137, vL 1913, vU, vU, vU]) (st' := [vI 0]) (g' := g) k209_4 rfl rfl ?_
  refine q_s (pc' := 6) (ls' := [vR 137, vL 1913, vU, vI 0, vU]) (st' := []) (g' := g) k209_5 rfl rfl ?_
  rfl
set_option maxHeartbeats 4000000 in
theorem jM_digest_6_eq (L : Nat) (l1 : Int) (l3 : Int) (g : AMem) : jM_digest_6 L l1 l3 g = if 7 ≤ l3 then (jM_digest_33 L l1 0 vU g) else ((jM_tells L l3 g).bind (fun q2 => jM_digest_6 L (lw ((lw (31 * l1)) + q2.1)) (iw (l3 + 1)) q2.2)) := by
  unfold jM_digest_6
  refine q_s (pc' := 7) (ls' := [vR 137, vL l1, vU, vI l3, vU]) (st' := [vI l3]) (g' := g) k209_6 rfl rfl ?_
  refine q_s (pc' := 9) (ls' := [vR 137, vL l1, vU, vI l3, vU]) (st' := [vI 7, vI l3]) (g' := g) k209_7 rfl rfl ?_
  refine q_ic (P := 7 ≤ l3) (t := 31) (pc' := 12) k209_9 Iff.rfl rfl rfl (fun h1 => ?_) (fun h1 => ?_)
  · refine q_s (pc' := 32) (ls' := [vR 137, vL l1, vU, vI l3, vU]) (st' := [vI 0]) (g' := g) k209_31 rfl rfl ?_
    refine q_s (pc' := 33) (ls' := [vR 137, vL l1, vU, vI 0, vU]) (st' := []) (g' := g) k209_32 rfl rfl ?_
    rfl
  · refine q_s (pc' := 15) (ls' := [vR 137, vL l1, vU, vI l3, vU]) (st' := [vL 31]) (g' := g) k209_12 rfl rfl ?_
    refine q_s (pc' := 16) (ls' := [vR 137, vL l1, vU, vI l3, vU]) (st' := [vL l1, vL 31]) (g' := g) k209_15 rfl rfl ?_
    refine q_s (pc' := 17) (ls' := [vR 137, vL l1, vU, vI l3, vU]) (st' := [vL (lw (31 * l1))]) (g' := g) k209_16 rfl rfl ?_
    refine q_s (pc' := 18) (ls' := [vR 137, vL l1, vU, vI l3, vU]) (st' := [vR 137, vL (lw (31 * l1))]) (g' := g) k209_17 rfl rfl ?_
    refine q_s (pc' := 19) (ls' := [vR 137, vL l1, vU, vI l3, vU]) (st' := [vI l3, vR 137, vL (lw (31 * l1))]) (g' := g) k209_18 rfl rfl ?_
    refine q_callI (ls0 := [vR 137, vI l3]) (rest := [vL (lw (31 * l1))]) (pc' := 22) rfl k209_19 rfl (hy4 rfl rfl rfl rfl) rfl rfl hq_207 rfl (fun q2 => ?_)
    refine q_s (pc' := 23) (ls' := [vR 137, vL l1, vU, vI l3, vU]) (st' := [vL q2.1, vL (lw (31 * l1))]) (g' := q2.2) k209_22 rfl rfl ?_
    refine q_s (pc' := 24) (ls' := [vR 137, vL l1, vU, vI l3, vU]) (st' := [vL (lw ((lw (31 * l1)) + q2.1))]) (g' := q2.2) k209_23 rfl rfl ?_
    refine q_s (pc' := 25) (ls' := [vR 137, vL (lw ((lw (31 * l1)) + q2.1)), vU, vI l3, vU]) (st' := []) (g' := q2.2) k209_24 rfl rfl ?_
    refine q_s (pc' := 28) (ls' := [vR 137, vL (lw ((lw (31 * l1)) + q2.1)), vU, vI (iw (l3 + 1)), vU]) (st' := []) (g' := q2.2) k209_25 rfl rfl ?_
    refine q_s (pc' := 6) (ls' := [vR 137, vL (lw ((lw (31 * l1)) + q2.1)), vU, vI (iw (l3 + 1)), vU]) (st' := []) (g' := q2.2) k209_28 rfl rfl ?_
    rfl
set_option maxHeartbeats 4000000 in
theorem jM_digest_33_eq (L : Nat) (l1 : Int) (l3 : Int) (w4 : AVal) (g : AMem) : jM_digest_33 L l1 l3 w4 g = if g 137 1 ≤ l3 then (jM_digest_103 L l1 0 w4 g) else (if 0 ≤ l3 ∧ l3 < 10 then (jM_digest_58 L (lw ((lw (31 * l1)) + (g 139 l3))) l3 0 g) else none) := by
  unfold jM_digest_33
  refine q_s (pc' := 34) (ls' := [vR 137, vL l1, vU, vI l3, w4]) (st' := [vI l3]) (g' := g) k209_33 rfl rfl ?_
  refine q_s (pc' := 35) (ls' := [vR 137, vL l1, vU, vI l3, w4]) (st' := [vR 137, vI l3]) (g' := g) k209_34 rfl rfl ?_
  refine q_getI (w := 1) (pc' := 38) k209_35 rfl rfl rfl rfl ?_
  refine q_ic (P := g 137 1 ≤ l3) (t := 101) (pc' := 41) k209_38 Iff.rfl rfl rfl (fun h3 => ?_) (fun h3 => ?_)
  · refine q_s (pc' := 102) (ls' := [vR 137, vL l1, vU, vI l3, w4]) (st' := [vI 0]) (g' := g) k209_101 rfl rfl ?_
    refine q_s (pc' := 103) (ls' := [vR 137, vL l1, vU, vI 0, w4]) (st' := []) (g' := g) k209_102 rfl rfl ?_
    rfl
  · refine q_s (pc' := 44) (ls' := [vR 137, vL l1, vU, vI l3, w4]) (st' := [vL 31]) (g' := g) k209_41 rfl rfl ?_
    refine q_s (pc' := 45) (ls' := [vR 137, vL l1, vU, vI l3, w4]) (st' := [vL l1, vL 31]) (g' := g) k209_44 rfl rfl ?_
    refine q_s (pc' := 46) (ls' := [vR 137, vL l1, vU, vI l3, w4]) (st' := [vL (lw (31 * l1))]) (g' := g) k209_45 rfl rfl ?_
    refine q_s (pc' := 47) (ls' := [vR 137, vL l1, vU, vI l3, w4]) (st' := [vR 137, vL (lw (31 * l1))]) (g' := g) k209_46 rfl rfl ?_
    refine q_getF (r := 139) (pc' := 50) k209_47 rfl rfl rfl rfl ?_
    refine q_s (pc' := 51) (ls' := [vR 137, vL l1, vU, vI l3, w4]) (st' := [vI l3, vR 139, vL (lw (31 * l1))]) (g' := g) k209_50 rfl rfl ?_
    refine q_iald (n := 10) (pc' := 52) rfl k209_51 rfl rfl (fun h4 => ?_)
    refine q_s (pc' := 53) (ls' := [vR 137, vL l1, vU, vI l3, w4]) (st' := [vL (g 139 l3), vL (lw (31 * l1))]) (g' := g) k209_52 rfl rfl ?_
    refine q_s (pc' := 54) (ls' := [vR 137, vL l1, vU, vI l3, w4]) (st' := [vL (lw ((lw (31 * l1)) + (g 139 l3)))]) (g' := g) k209_53 rfl rfl ?_
    refine q_s (pc' := 55) (ls' := [vR 137, vL (lw ((lw (31 * l1)) + (g 139 l3))), vU, vI l3, w4]) (st' := []) (g' := g) k209_54 rfl rfl ?_
    refine q_s (pc' := 56) (ls' := [vR 137, vL (lw ((lw (31 * l1)) + (g 139 l3))), vU, vI l3, w4]) (st' := [vI 0]) (g' := g) k209_55 rfl rfl ?_
    refine q_s (pc' := 58) (ls' := [vR 137, vL (lw ((lw (31 * l1)) + (g 139 l3))), vU, vI l3, vI 0]) (st' := []) (g' := g) k209_56 rfl rfl ?_
    rfl
set_option maxHeartbeats 4000000 in
theorem jM_digest_58_eq (L : Nat) (l1 : Int) (l3 : Int) (l4 : Int) (g : AMem) : jM_digest_58 L l1 l3 l4 g = if 0 ≤ l3 ∧ l3 < 10 then (if g 139 l3 ≤ l4 then (jM_digest_33 L l1 (iw (l3 + 1)) (vI l4) g) else (if 0 ≤ iw ((iw (6 * l3)) + l4) ∧ iw ((iw (6 * l3)) + l4) < 60 then (jM_digest_58 L (lw ((lw (31 * l1)) + (g 140 (iw ((iw (6 * l3)) + l4))))) l3 (iw (l4 + 1)) g) else none)) else none := by
  unfold jM_digest_58
  refine q_s (pc' := 60) (ls' := [vR 137, vL l1, vU, vI l3, vI l4]) (st' := [vI l4]) (g' := g) k209_58 rfl rfl ?_
  refine q_s (pc' := 61) (ls' := [vR 137, vL l1, vU, vI l3, vI l4]) (st' := [vR 137, vI l4]) (g' := g) k209_60 rfl rfl ?_
  refine q_getF (r := 139) (pc' := 64) k209_61 rfl rfl rfl rfl ?_
  refine q_s (pc' := 65) (ls' := [vR 137, vL l1, vU, vI l3, vI l4]) (st' := [vI l3, vR 139, vI l4]) (g' := g) k209_64 rfl rfl ?_
  refine q_iald (n := 10) (pc' := 66) rfl k209_65 rfl rfl (fun h5 => ?_)
  refine q_ic (P := g 139 l3 ≤ l4) (t := 95) (pc' := 69) k209_66 Iff.rfl rfl rfl (fun h6 => ?_) (fun h6 => ?_)
  · refine q_s (pc' := 98) (ls' := [vR 137, vL l1, vU, vI (iw (l3 + 1)), vI l4]) (st' := []) (g' := g) k209_95 rfl rfl ?_
    refine q_s (pc' := 33) (ls' := [vR 137, vL l1, vU, vI (iw (l3 + 1)), vI l4]) (st' := []) (g' := g) k209_98 rfl rfl ?_
    rfl
  · refine q_s (pc' := 72) (ls' := [vR 137, vL l1, vU, vI l3, vI l4]) (st' := [vL 31]) (g' := g) k209_69 rfl rfl ?_
    refine q_s (pc' := 73) (ls' := [vR 137, vL l1, vU, vI l3, vI l4]) (st' := [vL l1, vL 31]) (g' := g) k209_72 rfl rfl ?_
    refine q_s (pc' := 74) (ls' := [vR 137, vL l1, vU, vI l3, vI l4]) (st' := [vL (lw (31 * l1))]) (g' := g) k209_73 rfl rfl ?_
    refine q_s (pc' := 75) (ls' := [vR 137, vL l1, vU, vI l3, vI l4]) (st' := [vR 137, vL (lw (31 * l1))]) (g' := g) k209_74 rfl rfl ?_
    refine q_getF (r := 140) (pc' := 78) k209_75 rfl rfl rfl rfl ?_
    refine q_s (pc' := 80) (ls' := [vR 137, vL l1, vU, vI l3, vI l4]) (st' := [vI 6, vR 140, vL (lw (31 * l1))]) (g' := g) k209_78 rfl rfl ?_
    refine q_s (pc' := 81) (ls' := [vR 137, vL l1, vU, vI l3, vI l4]) (st' := [vI l3, vI 6, vR 140, vL (lw (31 * l1))]) (g' := g) k209_80 rfl rfl ?_
    refine q_s (pc' := 82) (ls' := [vR 137, vL l1, vU, vI l3, vI l4]) (st' := [vI (iw (6 * l3)), vR 140, vL (lw (31 * l1))]) (g' := g) k209_81 rfl rfl ?_
    refine q_s (pc' := 84) (ls' := [vR 137, vL l1, vU, vI l3, vI l4]) (st' := [vI l4, vI (iw (6 * l3)), vR 140, vL (lw (31 * l1))]) (g' := g) k209_82 rfl rfl ?_
    refine q_s (pc' := 85) (ls' := [vR 137, vL l1, vU, vI l3, vI l4]) (st' := [vI (iw ((iw (6 * l3)) + l4)), vR 140, vL (lw (31 * l1))]) (g' := g) k209_84 rfl rfl ?_
    refine q_iald (n := 60) (pc' := 86) rfl k209_85 rfl rfl (fun h7 => ?_)
    refine q_s (pc' := 87) (ls' := [vR 137, vL l1, vU, vI l3, vI l4]) (st' := [vL (g 140 (iw ((iw (6 * l3)) + l4))), vL (lw (31 * l1))]) (g' := g) k209_86 rfl rfl ?_
    refine q_s (pc' := 88) (ls' := [vR 137, vL l1, vU, vI l3, vI l4]) (st' := [vL (lw ((lw (31 * l1)) + (g 140 (iw ((iw (6 * l3)) + l4)))))]) (g' := g) k209_87 rfl rfl ?_
    refine q_s (pc' := 89) (ls' := [vR 137, vL (lw ((lw (31 * l1)) + (g 140 (iw ((iw (6 * l3)) + l4))))), vU, vI l3, vI l4]) (st' := []) (g' := g) k209_88 rfl rfl ?_
    refine q_s (pc' := 92) (ls' := [vR 137, vL (lw ((lw (31 * l1)) + (g 140 (iw ((iw (6 * l3)) + l4))))), vU, vI l3, vI (iw (l4 + 1))]) (st' := []) (g' := g) k209_89 rfl rfl ?_
    refine q_s (pc' := 58) (ls' := [vR 137, vL (lw ((lw (31 * l1)) + (g 140 (iw ((iw (6 * l3)) + l4))))), vU, vI l3, vI (iw (l4 + 1))]) (st' := []) (g' := g) k209_92 rfl rfl ?_
    rfl
set_option maxHeartbeats 4000000 in
theorem jM_digest_103_eq (L : Nat) (l1 : Int) (l3 : Int) (w4 : AVal) (g : AMem) : jM_digest_103 L l1 l3 w4 g = if g 137 2 ≤ l3 then (some (l1, g)) else (if 0 ≤ l3 ∧ l3 < 16 then (if 0 ≤ l3 ∧ l3 < 16 then (if 0 ≤ l3 ∧ l3 < 16 then (jM_digest_156 L (lw ((lw (31 * (lw ((lw (31 * (lw ((lw (31 * l1)) + (g 141 l3))))) + (g 142 l3))))) + (g 143 l3))) l3 0 g) else none) else none) else none) := by
  unfold jM_digest_103
  refine q_s (pc' := 104) (ls' := [vR 137, vL l1, vU, vI l3, w4]) (st' := [vI l3]) (g' := g) k209_103 rfl rfl ?_
  refine q_s (pc' := 105) (ls' := [vR 137, vL l1, vU, vI l3, w4]) (st' := [vR 137, vI l3]) (g' := g) k209_104 rfl rfl ?_
  refine q_getI (w := 2) (pc' := 108) k209_105 rfl rfl rfl rfl ?_
  refine q_ic (P := g 137 2 ≤ l3) (t := 193) (pc' := 111) k209_108 Iff.rfl rfl rfl (fun h8 => ?_) (fun h8 => ?_)
  · refine q_s (pc' := 194) (ls' := [vR 137, vL l1, vU, vI l3, w4]) (st' := [vL l1]) (g' := g) k209_193 rfl rfl ?_
    exact q_e k209_194 rfl rfl rfl
  · refine q_s (pc' := 114) (ls' := [vR 137, vL l1, vU, vI l3, w4]) (st' := [vL 31]) (g' := g) k209_111 rfl rfl ?_
    refine q_s (pc' := 115) (ls' := [vR 137, vL l1, vU, vI l3, w4]) (st' := [vL l1, vL 31]) (g' := g) k209_114 rfl rfl ?_
    refine q_s (pc' := 116) (ls' := [vR 137, vL l1, vU, vI l3, w4]) (st' := [vL (lw (31 * l1))]) (g' := g) k209_115 rfl rfl ?_
    refine q_s (pc' := 117) (ls' := [vR 137, vL l1, vU, vI l3, w4]) (st' := [vR 137, vL (lw (31 * l1))]) (g' := g) k209_116 rfl rfl ?_
    refine q_getF (r := 141) (pc' := 120) k209_117 rfl rfl rfl rfl ?_
    refine q_s (pc' := 121) (ls' := [vR 137, vL l1, vU, vI l3, w4]) (st' := [vI l3, vR 141, vL (lw (31 * l1))]) (g' := g) k209_120 rfl rfl ?_
    refine q_iald (n := 16) (pc' := 122) rfl k209_121 rfl rfl (fun h9 => ?_)
    refine q_s (pc' := 123) (ls' := [vR 137, vL l1, vU, vI l3, w4]) (st' := [vL (g 141 l3), vL (lw (31 * l1))]) (g' := g) k209_122 rfl rfl ?_
    refine q_s (pc' := 124) (ls' := [vR 137, vL l1, vU, vI l3, w4]) (st' := [vL (lw ((lw (31 * l1)) + (g 141 l3)))]) (g' := g) k209_123 rfl rfl ?_
    refine q_s (pc' := 125) (ls' := [vR 137, vL (lw ((lw (31 * l1)) + (g 141 l3))), vU, vI l3, w4]) (st' := []) (g' := g) k209_124 rfl rfl ?_
    refine q_s (pc' := 128) (ls' := [vR 137, vL (lw ((lw (31 * l1)) + (g 141 l3))), vU, vI l3, w4]) (st' := [vL 31]) (g' := g) k209_125 rfl rfl ?_
    refine q_s (pc' := 129) (ls' := [vR 137, vL (lw ((lw (31 * l1)) + (g 141 l3))), vU, vI l3, w4]) (st' := [vL (lw ((lw (31 * l1)) + (g 141 l3))), vL 31]) (g' := g) k209_128 rfl rfl ?_
    refine q_s (pc' := 130) (ls' := [vR 137, vL (lw ((lw (31 * l1)) + (g 141 l3))), vU, vI l3, w4]) (st' := [vL (lw (31 * (lw ((lw (31 * l1)) + (g 141 l3)))))]) (g' := g) k209_129 rfl rfl ?_
    refine q_s (pc' := 131) (ls' := [vR 137, vL (lw ((lw (31 * l1)) + (g 141 l3))), vU, vI l3, w4]) (st' := [vR 137, vL (lw (31 * (lw ((lw (31 * l1)) + (g 141 l3)))))]) (g' := g) k209_130 rfl rfl ?_
    refine q_getF (r := 142) (pc' := 134) k209_131 rfl rfl rfl rfl ?_
    refine q_s (pc' := 135) (ls' := [vR 137, vL (lw ((lw (31 * l1)) + (g 141 l3))), vU, vI l3, w4]) (st' := [vI l3, vR 142, vL (lw (31 * (lw ((lw (31 * l1)) + (g 141 l3)))))]) (g' := g) k209_134 rfl rfl ?_
    refine q_iald (n := 16) (pc' := 136) rfl k209_135 rfl rfl (fun h10 => ?_)
    refine q_s (pc' := 137) (ls' := [vR 137, vL (lw ((lw (31 * l1)) + (g 141 l3))), vU, vI l3, w4]) (st' := [vL (g 142 l3), vL (lw (31 * (lw ((lw (31 * l1)) + (g 141 l3)))))]) (g' := g) k209_136 rfl rfl ?_
    refine q_s (pc' := 138) (ls' := [vR 137, vL (lw ((lw (31 * l1)) + (g 141 l3))), vU, vI l3, w4]) (st' := [vL (lw ((lw (31 * (lw ((lw (31 * l1)) + (g 141 l3))))) + (g 142 l3)))]) (g' := g) k209_137 rfl rfl ?_
    refine q_s (pc' := 139) (ls' := [vR 137, vL (lw ((lw (31 * (lw ((lw (31 * l1)) + (g 141 l3))))) + (g 142 l3))), vU, vI l3, w4]) (st' := []) (g' := g) k209_138 rfl rfl ?_
    refine q_s (pc' := 142) (ls' := [vR 137, vL (lw ((lw (31 * (lw ((lw (31 * l1)) + (g 141 l3))))) + (g 142 l3))), vU, vI l3, w4]) (st' := [vL 31]) (g' := g) k209_139 rfl rfl ?_
    refine q_s (pc' := 143) (ls' := [vR 137, vL (lw ((lw (31 * (lw ((lw (31 * l1)) + (g 141 l3))))) + (g 142 l3))), vU, vI l3, w4]) (st' := [vL (lw ((lw (31 * (lw ((lw (31 * l1)) + (g 141 l3))))) + (g 142 l3))), vL 31]) (g' := g) k209_142 rfl rfl ?_
    refine q_s (pc' := 144) (ls' := [vR 137, vL (lw ((lw (31 * (lw ((lw (31 * l1)) + (g 141 l3))))) + (g 142 l3))), vU, vI l3, w4]) (st' := [vL (lw (31 * (lw ((lw (31 * (lw ((lw (31 * l1)) + (g 141 l3))))) + (g 142 l3)))))]) (g' := g) k209_143 rfl rfl ?_
    refine q_s (pc' := 145) (ls' := [vR 137, vL (lw ((lw (31 * (lw ((lw (31 * l1)) + (g 141 l3))))) + (g 142 l3))), vU, vI l3, w4]) (st' := [vR 137, vL (lw (31 * (lw ((lw (31 * (lw ((lw (31 * l1)) + (g 141 l3))))) + (g 142 l3)))))]) (g' := g) k209_144 rfl rfl ?_
    refine q_getF (r := 143) (pc' := 148) k209_145 rfl rfl rfl rfl ?_
    refine q_s (pc' := 149) (ls' := [vR 137, vL (lw ((lw (31 * (lw ((lw (31 * l1)) + (g 141 l3))))) + (g 142 l3))), vU, vI l3, w4]) (st' := [vI l3, vR 143, vL (lw (31 * (lw ((lw (31 * (lw ((lw (31 * l1)) + (g 141 l3))))) + (g 142 l3)))))]) (g' := g) k209_148 rfl rfl ?_
    refine q_iald (n := 16) (pc' := 150) rfl k209_149 rfl rfl (fun h11 => ?_)
    refine q_s (pc' := 151) (ls' := [vR 137, vL (lw ((lw (31 * (lw ((lw (31 * l1)) + (g 141 l3))))) + (g 142 l3))), vU, vI l3, w4]) (st' := [vL (g 143 l3), vL (lw (31 * (lw ((lw (31 * (lw ((lw (31 * l1)) + (g 141 l3))))) + (g 142 l3)))))]) (g' := g) k209_150 rfl rfl ?_
    refine q_s (pc' := 152) (ls' := [vR 137, vL (lw ((lw (31 * (lw ((lw (31 * l1)) + (g 141 l3))))) + (g 142 l3))), vU, vI l3, w4]) (st' := [vL (lw ((lw (31 * (lw ((lw (31 * (lw ((lw (31 * l1)) + (g 141 l3))))) + (g 142 l3))))) + (g 143 l3)))]) (g' := g) k209_151 rfl rfl ?_
    refine q_s (pc' := 153) (ls' := [vR 137, vL (lw ((lw (31 * (lw ((lw (31 * (lw ((lw (31 * l1)) + (g 141 l3))))) + (g 142 l3))))) + (g 143 l3))), vU, vI l3, w4]) (st' := []) (g' := g) k209_152 rfl rfl ?_
    refine q_s (pc' := 154) (ls' := [vR 137, vL (lw ((lw (31 * (lw ((lw (31 * (lw ((lw (31 * l1)) + (g 141 l3))))) + (g 142 l3))))) + (g 143 l3))), vU, vI l3, w4]) (st' := [vI 0]) (g' := g) k209_153 rfl rfl ?_
    refine q_s (pc' := 156) (ls' := [vR 137, vL (lw ((lw (31 * (lw ((lw (31 * (lw ((lw (31 * l1)) + (g 141 l3))))) + (g 142 l3))))) + (g 143 l3))), vU, vI l3, vI 0]) (st' := []) (g' := g) k209_154 rfl rfl ?_
    rfl
set_option maxHeartbeats 4000000 in
theorem jM_digest_156_eq (L : Nat) (l1 : Int) (l3 : Int) (l4 : Int) (g : AMem) : jM_digest_156 L l1 l3 l4 g = (jM_manyOf L l3 g).bind (fun q12 => if q12.1 ≤ l4 then (jM_digest_103 L l1 (iw (l3 + 1)) (vI l4) q12.2) else ((jM_givenOf L l3 l4 q12.2).bind (fun q14 => jM_digest_156 L (lw ((lw (31 * l1)) + q14.1)) l3 (iw (l4 + 1)) q14.2))) := by
  unfold jM_digest_156
  refine q_s (pc' := 158) (ls' := [vR 137, vL l1, vU, vI l3, vI l4]) (st' := [vI l4]) (g' := g) k209_156 rfl rfl ?_
  refine q_s (pc' := 159) (ls' := [vR 137, vL l1, vU, vI l3, vI l4]) (st' := [vR 137, vI l4]) (g' := g) k209_158 rfl rfl ?_
  refine q_s (pc' := 160) (ls' := [vR 137, vL l1, vU, vI l3, vI l4]) (st' := [vI l3, vR 137, vI l4]) (g' := g) k209_159 rfl rfl ?_
  refine q_callI (ls0 := [vR 137, vI l3]) (rest := [vI l4]) (pc' := 163) rfl k209_160 rfl (hy4 rfl rfl rfl rfl) rfl rfl hq_148 rfl (fun q12 => ?_)
  refine q_ic (P := q12.1 ≤ l4) (t := 187) (pc' := 166) k209_163 Iff.rfl rfl rfl (fun h13 => ?_) (fun h13 => ?_)
  · refine q_s (pc' := 190) (ls' := [vR 137, vL l1, vU, vI (iw (l3 + 1)), vI l4]) (st' := []) (g' := q12.2) k209_187 rfl rfl ?_
    refine q_s (pc' := 103) (ls' := [vR 137, vL l1, vU, vI (iw (l3 + 1)), vI l4]) (st' := []) (g' := q12.2) k209_190 rfl rfl ?_
    rfl
  · refine q_s (pc' := 169) (ls' := [vR 137, vL l1, vU, vI l3, vI l4]) (st' := [vL 31]) (g' := q12.2) k209_166 rfl rfl ?_
    refine q_s (pc' := 170) (ls' := [vR 137, vL l1, vU, vI l3, vI l4]) (st' := [vL l1, vL 31]) (g' := q12.2) k209_169 rfl rfl ?_
    refine q_s (pc' := 171) (ls' := [vR 137, vL l1, vU, vI l3, vI l4]) (st' := [vL (lw (31 * l1))]) (g' := q12.2) k209_170 rfl rfl ?_
    refine q_s (pc' := 172) (ls' := [vR 137, vL l1, vU, vI l3, vI l4]) (st' := [vR 137, vL (lw (31 * l1))]) (g' := q12.2) k209_171 rfl rfl ?_
    refine q_s (pc' := 173) (ls' := [vR 137, vL l1, vU, vI l3, vI l4]) (st' := [vI l3, vR 137, vL (lw (31 * l1))]) (g' := q12.2) k209_172 rfl rfl ?_
    refine q_s (pc' := 175) (ls' := [vR 137, vL l1, vU, vI l3, vI l4]) (st' := [vI l4, vI l3, vR 137, vL (lw (31 * l1))]) (g' := q12.2) k209_173 rfl rfl ?_
    refine q_callI (ls0 := [vR 137, vI l3, vI l4]) (rest := [vL (lw (31 * l1))]) (pc' := 178) rfl k209_175 rfl (hy4 rfl rfl rfl rfl) rfl rfl hq_149 rfl (fun q14 => ?_)
    refine q_s (pc' := 179) (ls' := [vR 137, vL l1, vU, vI l3, vI l4]) (st' := [vL q14.1, vL (lw (31 * l1))]) (g' := q14.2) k209_178 rfl rfl ?_
    refine q_s (pc' := 180) (ls' := [vR 137, vL l1, vU, vI l3, vI l4]) (st' := [vL (lw ((lw (31 * l1)) + q14.1))]) (g' := q14.2) k209_179 rfl rfl ?_
    refine q_s (pc' := 181) (ls' := [vR 137, vL (lw ((lw (31 * l1)) + q14.1)), vU, vI l3, vI l4]) (st' := []) (g' := q14.2) k209_180 rfl rfl ?_
    refine q_s (pc' := 184) (ls' := [vR 137, vL (lw ((lw (31 * l1)) + q14.1)), vU, vI l3, vI (iw (l4 + 1))]) (st' := []) (g' := q14.2) k209_181 rfl rfl ?_
    refine q_s (pc' := 156) (ls' := [vR 137, vL (lw ((lw (31 * l1)) + q14.1)), vU, vI l3, vI (iw (l4 + 1))]) (st' := []) (g' := q14.2) k209_184 rfl rfl ?_
    rfl
set_option maxHeartbeats 4000000 in
theorem jM_type_eq (L : Nat) (a1 : Int) (g : AMem) : jM_type L a1 g = (jM_in L a1 0 127 g).bind (fun q1 => if q1.1 ≠ 0 then (if q1.2 137 24 ≠ 120 then (if 0 ≤ q1.2 137 24 ∧ q1.2 137 24 < 120 then (some ((up (up q1.2 156 (q1.2 137 24) a1) 137 24 (iw (((up q1.2 156 (q1.2 137 24) a1) 137 24) + 1))) 137 24, up (up q1.2 156 (q1.2 137 24) a1) 137 24 (iw (((up q1.2 156 (q1.2 137 24) a1) 137 24) + 1)))) else none) else ((jM_full L q1.2).bind (fun q5 => some (q5.1, q5.2)))) else ((jM_bad L q1.2).bind (fun q6 => some (q6.1, q6.2)))) := by
  unfold jM_type
  refine q_s (pc' := 1) (ls' := [vR 137, vI a1]) (st' := [vI a1]) (g' := g) k210_0 rfl rfl ?_
  refine q_s (pc' := 2) (ls' := [vR 137, vI a1]) (st' := [vI 0, vI a1]) (g' := g) k210_1 rfl rfl ?_
  refine q_s (pc' := 4) (ls' := [vR 137, vI a1]) (st' := [vI 127, vI 0, vI a1]) (g' := g) k210_2 rfl rfl ?_
  refine q_callI (ls0 := [vI a1, vI 0, vI 127]) (rest := []) (pc' := 7) rfl k210_4 rfl (hy4 rfl rfl rfl rfl) rfl rfl hq_138 rfl (fun q1 => ?_)
  refine q_if (P := q1.1 ≠ 0) (t := 15) (pc' := 10) k210_7 Iff.rfl rfl rfl (fun h2 => ?_) (fun h2 => ?_)
  · refine q_s (pc' := 16) (ls' := [vR 137, vI a1]) (st' := [vR 137]) (g' := q1.2) k210_15 rfl rfl ?_
    refine q_getI (w := 24) (pc' := 19) k210_16 rfl rfl rfl rfl ?_
    refine q_s (pc' := 21) (ls' := [vR 137, vI a1]) (st' := [vI 120, vI (q1.2 137 24)]) (g' := q1.2) k210_19 rfl rfl ?_
    refine q_ic (P := q1.2 137 24 ≠ 120) (t := 29) (pc' := 24) k210_21 Iff.rfl rfl rfl (fun h3 => ?_) (fun h3 => ?_)
    · refine q_s (pc' := 30) (ls' := [vR 137, vI a1]) (st' := [vR 137]) (g' := q1.2) k210_29 rfl rfl ?_
      refine q_getF (r := 156) (pc' := 33) k210_30 rfl rfl rfl rfl ?_
      refine q_s (pc' := 34) (ls' := [vR 137, vI a1]) (st' := [vR 137, vR 156]) (g' := q1.2) k210_33 rfl rfl ?_
      refine q_getI (w := 24) (pc' := 37) k210_34 rfl rfl rfl rfl ?_
      refine q_s (pc' := 38) (ls' := [vR 137, vI a1]) (st' := [vI a1, vI (q1.2 137 24), vR 156]) (g' := q1.2) k210_37 rfl rfl ?_
      refine q_iast (n := 120) (pc' := 39) rfl k210_38 rfl (by decide) rfl (fun h4 => ?_)
      refine q_s (pc' := 40) (ls' := [vR 137, vI a1]) (st' := [vR 137]) (g' := up q1.2 156 (q1.2 137 24) a1) k210_39 rfl rfl ?_
      refine q_s (pc' := 41) (ls' := [vR 137, vI a1]) (st' := [vR 137, vR 137]) (g' := up q1.2 156 (q1.2 137 24) a1) k210_40 rfl rfl ?_
      refine q_getI (w := 24) (pc' := 44) k210_41 rfl rfl rfl rfl ?_
      refine q_s (pc' := 45) (ls' := [vR 137, vI a1]) (st' := [vI 1, vI ((up q1.2 156 (q1.2 137 24) a1) 137 24), vR 137]) (g' := up q1.2 156 (q1.2 137 24) a1) k210_44 rfl rfl ?_
      refine q_s (pc' := 46) (ls' := [vR 137, vI a1]) (st' := [vI (iw (((up q1.2 156 (q1.2 137 24) a1) 137 24) + 1)), vR 137]) (g' := up q1.2 156 (q1.2 137 24) a1) k210_45 rfl rfl ?_
      refine q_putI (w := 24) (pc' := 49) k210_46 rfl rfl rfl rfl ?_
      refine q_s (pc' := 50) (ls' := [vR 137, vI a1]) (st' := [vR 137]) (g' := up (up q1.2 156 (q1.2 137 24) a1) 137 24 (iw (((up q1.2 156 (q1.2 137 24) a1) 137 24) + 1))) k210_49 rfl rfl ?_
      refine q_getI (w := 24) (pc' := 53) k210_50 rfl rfl rfl rfl ?_
      exact q_e k210_53 rfl rfl rfl
    · refine q_s (pc' := 25) (ls' := [vR 137, vI a1]) (st' := [vR 137]) (g' := q1.2) k210_24 rfl rfl ?_
      refine q_callI (ls0 := [vR 137]) (rest := []) (pc' := 28) rfl k210_25 rfl (hy4 rfl rfl rfl rfl) rfl rfl hq_137 rfl (fun q5 => ?_)
      exact q_e k210_28 rfl rfl rfl
  · refine q_s (pc' := 11) (ls' := [vR 137, vI a1]) (st' := [vR 137]) (g' := q1.2) k210_10 rfl rfl ?_
    refine q_callI (ls0 := [vR 137]) (rest := []) (pc' := 14) rfl k210_11 rfl (hy4 rfl rfl rfl rfl) rfl rfl hq_135 rfl (fun q6 => ?_)
    exact q_e k210_14 rfl rfl rfl
set_option maxHeartbeats 4000000 in
theorem jM_clear_eq (L : Nat) (g : AMem) : jM_clear L g = some (g 137 24, up g 137 24 0) := by
  unfold jM_clear
  refine q_s (pc' := 1) (ls' := [vR 137, vU]) (st' := [vR 137]) (g' := g) k211_0 rfl rfl ?_
  refine q_getI (w := 24) (pc' := 4) k211_1 rfl rfl rfl rfl ?_
  refine q_s (pc' := 5) (ls' := [vR 137, vI (g 137 24)]) (st' := []) (g' := g) k211_4 rfl rfl ?_
  refine q_s (pc' := 6) (ls' := [vR 137, vI (g 137 24)]) (st' := [vR 137]) (g' := g) k211_5 rfl rfl ?_
  refine q_s (pc' := 7) (ls' := [vR 137, vI (g 137 24)]) (st' := [vI 0, vR 137]) (g' := g) k211_6 rfl rfl ?_
  refine q_putI (w := 24) (pc' := 10) k211_7 rfl rfl rfl rfl ?_
  refine q_s (pc' := 11) (ls' := [vR 137, vI (g 137 24)]) (st' := [vI (g 137 24)]) (g' := up g 137 24 0) k211_10 rfl rfl ?_
  exact q_e k211_11 rfl rfl rfl
set_option maxHeartbeats 4000000 in
theorem jM_here_eq (L : Nat) (g : AMem) : jM_here L g = if g 137 24 ≤ g 137 25 then (some ((-201), g)) else (if 0 ≤ g 137 25 ∧ g 137 25 < 120 then (some (g 156 (g 137 25), g)) else none) := by
  unfold jM_here
  refine q_s (pc' := 1) (ls' := [vR 137]) (st' := [vR 137]) (g' := g) k212_0 rfl rfl ?_
  refine q_getI (w := 25) (pc' := 4) k212_1 rfl rfl rfl rfl ?_
  refine q_s (pc' := 5) (ls' := [vR 137]) (st' := [vR 137, vI (g 137 25)]) (g' := g) k212_4 rfl rfl ?_
  refine q_getI (w := 24) (pc' := 8) k212_5 rfl rfl rfl rfl ?_
  refine q_ic (P := g 137 24 ≤ g 137 25) (t := 23) (pc' := 11) k212_8 Iff.rfl rfl rfl (fun h1 => ?_) (fun h1 => ?_)
  · refine q_s (pc' := 26) (ls' := [vR 137]) (st' := [vI (-201)]) (g' := g) k212_23 rfl rfl ?_
    exact q_e k212_26 rfl rfl rfl
  · refine q_s (pc' := 12) (ls' := [vR 137]) (st' := [vR 137]) (g' := g) k212_11 rfl rfl ?_
    refine q_getF (r := 156) (pc' := 15) k212_12 rfl rfl rfl rfl ?_
    refine q_s (pc' := 16) (ls' := [vR 137]) (st' := [vR 137, vR 156]) (g' := g) k212_15 rfl rfl ?_
    refine q_getI (w := 25) (pc' := 19) k212_16 rfl rfl rfl rfl ?_
    refine q_iald (n := 120) (pc' := 20) rfl k212_19 rfl rfl (fun h2 => ?_)
    refine q_s (pc' := 26) (ls' := [vR 137]) (st' := [vI (g 156 (g 137 25))]) (g' := g) k212_20 rfl rfl ?_
    exact q_e k212_26 rfl rfl rfl
set_option maxHeartbeats 4000000 in
theorem jM_skip_0_eq (L : Nat) (g : AMem) : jM_skip_0 L g = (jM_here L g).bind (fun q1 => if q1.1 ≠ 32 then (some q1.2) else (jM_skip_0 L (up q1.2 137 25 (iw ((q1.2 137 25) + 1))))) := by
  unfold jM_skip_0
  refine q_s (pc' := 1) (ls' := [vR 137]) (st' := [vR 137]) (g' := g) k213_0 rfl rfl ?_
  refine q_callI (ls0 := [vR 137]) (rest := []) (pc' := 4) rfl k213_1 rfl (hy4 rfl rfl rfl rfl) rfl rfl hq_212 rfl (fun q1 => ?_)
  refine q_s (pc' := 6) (ls' := [vR 137]) (st' := [vI 32, vI q1.1]) (g' := q1.2) k213_4 rfl rfl ?_
  refine q_ic (P := q1.1 ≠ 32) (t := 22) (pc' := 9) k213_6 Iff.rfl rfl rfl (fun h2 => ?_) (fun h2 => ?_)
  · exact q_e k213_22 rfl rfl rfl
  · refine q_s (pc' := 10) (ls' := [vR 137]) (st' := [vR 137]) (g' := q1.2) k213_9 rfl rfl ?_
    refine q_s (pc' := 11) (ls' := [vR 137]) (st' := [vR 137, vR 137]) (g' := q1.2) k213_10 rfl rfl ?_
    refine q_getI (w := 25) (pc' := 14) k213_11 rfl rfl rfl rfl ?_
    refine q_s (pc' := 15) (ls' := [vR 137]) (st' := [vI 1, vI (q1.2 137 25), vR 137]) (g' := q1.2) k213_14 rfl rfl ?_
    refine q_s (pc' := 16) (ls' := [vR 137]) (st' := [vI (iw ((q1.2 137 25) + 1)), vR 137]) (g' := q1.2) k213_15 rfl rfl ?_
    refine q_putI (w := 25) (pc' := 19) k213_16 rfl rfl rfl rfl ?_
    refine q_s (pc' := 0) (ls' := [vR 137]) (st' := []) (g' := up q1.2 137 25 (iw ((q1.2 137 25) + 1))) k213_19 rfl rfl ?_
    rfl
set_option maxHeartbeats 4000000 in
theorem jM_isFigure_eq (L : Nat) (a0 : Int) (g : AMem) : jM_isFigure L a0 g = (jM_in L a0 48 57 g).bind (fun q1 => if q1.1 = 0 ∨ q1.1 = 1 then some (q1.1, q1.2) else none) := by
  unfold jM_isFigure
  refine q_s (pc' := 1) (ls' := [vI a0]) (st' := [vI a0]) (g' := g) k214_0 rfl rfl ?_
  refine q_s (pc' := 3) (ls' := [vI a0]) (st' := [vI 48, vI a0]) (g' := g) k214_1 rfl rfl ?_
  refine q_s (pc' := 5) (ls' := [vI a0]) (st' := [vI 57, vI 48, vI a0]) (g' := g) k214_3 rfl rfl ?_
  refine q_callI (ls0 := [vI a0, vI 48, vI 57]) (rest := []) (pc' := 8) rfl k214_5 rfl (hy4 rfl rfl rfl rfl) rfl rfl hq_138 rfl (fun q1 => ?_)
  exact q_eb rfl k214_8 rfl rfl
set_option maxHeartbeats 4000000 in
theorem jM_figures_eq (L : Nat) (a1 : Int) (g : AMem) : jM_figures L a1 g = jM_figures_2 L a1 0 g := by
  unfold jM_figures
  refine q_s (pc' := 1) (ls' := [vR 137, vI a1, vU]) (st' := [vI 0]) (g' := g) k215_0 rfl rfl ?_
  refine q_s (pc' := 2) (ls' := [vR 137, vI a1, vI 0]) (st' := []) (g' := g) k215_1 rfl rfl ?_
  rfl
set_option maxHeartbeats 4000000 in
theorem jM_figures_2_eq (L : Nat) (l1 : Int) (l2 : Int) (g : AMem) : jM_figures_2 L l1 l2 g = if g 137 24 ≤ iw (l1 + l2) then (some (l2, g)) else (if 0 ≤ iw (l1 + l2) ∧ iw (l1 + l2) < 120 then ((jM_isFigure L (g 156 (iw (l1 + l2))) g).bind (fun q3 => if q3.1 = 0 then (some (l2, q3.2)) else (jM_figures_2 L l1 (iw (l2 + 1)) q3.2))) else none) := by
  unfold jM_figures_2
  refine q_s (pc' := 3) (ls' := [vR 137, vI l1, vI l2]) (st' := [vI l1]) (g' := g) k215_2 rfl rfl ?_
  refine q_s (pc' := 4) (ls' := [vR 137, vI l1, vI l2]) (st' := [vI l2, vI l1]) (g' := g) k215_3 rfl rfl ?_
  refine q_s (pc' := 5) (ls' := [vR 137, vI l1, vI l2]) (st' := [vI (iw (l1 + l2))]) (g' := g) k215_4 rfl rfl ?_
  refine q_s (pc' := 6) (ls' := [vR 137, vI l1, vI l2]) (st' := [vR 137, vI (iw (l1 + l2))]) (g' := g) k215_5 rfl rfl ?_
  refine q_getI (w := 24) (pc' := 9) k215_6 rfl rfl rfl rfl ?_
  refine q_ic (P := g 137 24 ≤ iw (l1 + l2)) (t := 32) (pc' := 12) k215_9 Iff.rfl rfl rfl (fun h1 => ?_) (fun h1 => ?_)
  · refine q_s (pc' := 33) (ls' := [vR 137, vI l1, vI l2]) (st' := [vI l2]) (g' := g) k215_32 rfl rfl ?_
    exact q_e k215_33 rfl rfl rfl
  · refine q_s (pc' := 13) (ls' := [vR 137, vI l1, vI l2]) (st' := [vR 137]) (g' := g) k215_12 rfl rfl ?_
    refine q_getF (r := 156) (pc' := 16) k215_13 rfl rfl rfl rfl ?_
    refine q_s (pc' := 17) (ls' := [vR 137, vI l1, vI l2]) (st' := [vI l1, vR 156]) (g' := g) k215_16 rfl rfl ?_
    refine q_s (pc' := 18) (ls' := [vR 137, vI l1, vI l2]) (st' := [vI l2, vI l1, vR 156]) (g' := g) k215_17 rfl rfl ?_
    refine q_s (pc' := 19) (ls' := [vR 137, vI l1, vI l2]) (st' := [vI (iw (l1 + l2)), vR 156]) (g' := g) k215_18 rfl rfl ?_
    refine q_iald (n := 120) (pc' := 20) rfl k215_19 rfl rfl (fun h2 => ?_)
    refine q_callI (ls0 := [vI (g 156 (iw (l1 + l2)))]) (rest := []) (pc' := 23) rfl k215_20 rfl (hy4 rfl rfl rfl rfl) rfl rfl hq_214 rfl (fun q3 => ?_)
    refine q_if (P := q3.1 = 0) (t := 32) (pc' := 26) k215_23 Iff.rfl rfl rfl (fun h4 => ?_) (fun h4 => ?_)
    · refine q_s (pc' := 33) (ls' := [vR 137, vI l1, vI l2]) (st' := [vI l2]) (g' := q3.2) k215_32 rfl rfl ?_
      exact q_e k215_33 rfl rfl rfl
    · refine q_s (pc' := 29) (ls' := [vR 137, vI l1, vI (iw (l2 + 1))]) (st' := []) (g' := q3.2) k215_26 rfl rfl ?_
      refine q_s (pc' := 2) (ls' := [vR 137, vI l1, vI (iw (l2 + 1))]) (st' := []) (g' := q3.2) k215_29 rfl rfl ?_
      rfl
set_option maxHeartbeats 4000000 in
theorem jM_number_eq (L : Nat) (a1 : Int) (a2 : Int) (g : AMem) : jM_number L a1 a2 g = (jM_skip L g).bind (fun q1 => (jM_figures L (q1 137 25) q1).bind (fun q2 => jM_number_19 L a1 a2 q2.1 0 0 q2.2)) := by
  unfold jM_number
  refine q_s (pc' := 1) (ls' := [vR 137, vI a1, vI a2, vU, vU, vU]) (st' := [vR 137]) (g' := g) k216_0 rfl rfl ?_
  refine q_callV (ls0 := [vR 137]) (rest := []) (pc' := 4) rfl k216_1 rfl (hy4 rfl rfl rfl rfl) rfl rfl hq_213 rfl (fun q1 => ?_)
  refine q_s (pc' := 5) (ls' := [vR 137, vI a1, vI a2, vU, vU, vU]) (st' := [vR 137]) (g' := q1) k216_4 rfl rfl ?_
  refine q_s (pc' := 6) (ls' := [vR 137, vI a1, vI a2, vU, vU, vU]) (st' := [vR 137, vR 137]) (g' := q1) k216_5 rfl rfl ?_
  refine q_getI (w := 25) (pc' := 9) k216_6 rfl rfl rfl rfl ?_
  refine q_callI (ls0 := [vR 137, vI (q1 137 25), vU]) (rest := []) (pc' := 12) rfl k216_9 rfl (hy4 rfl rfl rfl rfl) rfl rfl hq_215 rfl (fun q2 => ?_)
  refine q_s (pc' := 13) (ls' := [vR 137, vI a1, vI a2, vI q2.1, vU, vU]) (st' := []) (g' := q2.2) k216_12 rfl rfl ?_
  refine q_s (pc' := 14) (ls' := [vR 137, vI a1, vI a2, vI q2.1, vU, vU]) (st' := [vI 0]) (g' := q2.2) k216_13 rfl rfl ?_
  refine q_s (pc' := 16) (ls' := [vR 137, vI a1, vI a2, vI q2.1, vI 0, vU]) (st' := []) (g' := q2.2) k216_14 rfl rfl ?_
  refine q_s (pc' := 17) (ls' := [vR 137, vI a1, vI a2, vI q2.1, vI 0, vU]) (st' := [vI 0]) (g' := q2.2) k216_16 rfl rfl ?_
  refine q_s (pc' := 19) (ls' := [vR 137, vI a1, vI a2, vI q2.1, vI 0, vI 0]) (st' := []) (g' := q2.2) k216_17 rfl rfl ?_
  rfl
set_option maxHeartbeats 4000000 in
theorem jM_number_19_eq (L : Nat) (l1 : Int) (l2 : Int) (l3 : Int) (l4 : Int) (l5 : Int) (g : AMem) : jM_number_19 L l1 l2 l3 l4 l5 g = if l3 ≤ l5 then ((jM_in L l3 1 3 g).bind (fun q4 => if q4.1 = 0 then (some (0, q4.2)) else ((jM_in L l4 l1 l2 q4.2).bind (fun q6 => if q6.1 ≠ 0 then (some (1, up (up q6.2 137 26 l4) 137 25 (iw (((up q6.2 137 26 l4) 137 25) + l3)))) else (some (0, q6.2)))))) else (if 3 ≤ l5 then ((jM_in L l3 1 3 g).bind (fun q9 => if q9.1 = 0 then (some (0, q9.2)) else ((jM_in L l4 l1 l2 q9.2).bind (fun q11 => if q11.1 ≠ 0 then (some (1, up (up q11.2 137 26 l4) 137 25 (iw (((up q11.2 137 26 l4) 137 25) + l3)))) else (some (0, q11.2)))))) else (if 0 ≤ iw ((g 137 25) + l5) ∧ iw ((g 137 25) + l5) < 120 then (jM_number_19 L l1 l2 l3 (iw ((iw ((iw (10 * l4)) + (g 156 (iw ((g 137 25) + l5))))) - 48)) (iw (l5 + 1)) g) else none)) := by
  unfold jM_number_19
  refine q_s (pc' := 21) (ls' := [vR 137, vI l1, vI l2, vI l3, vI l4, vI l5]) (st' := [vI l5]) (g' := g) k216_19 rfl rfl ?_
  refine q_s (pc' := 22) (ls' := [vR 137, vI l1, vI l2, vI l3, vI l4, vI l5]) (st' := [vI l3, vI l5]) (g' := g) k216_21 rfl rfl ?_
  refine q_ic (P := l3 ≤ l5) (t := 60) (pc' := 25) k216_22 Iff.rfl rfl rfl (fun h3 => ?_) (fun h3 => ?_)
  · refine q_s (pc' := 61) (ls' := [vR 137, vI l1, vI l2, vI l3, vI l4, vI l5]) (st' := [vI l3]) (g' := g) k216_60 rfl rfl ?_
    refine q_s (pc' := 62) (ls' := [vR 137, vI l1, vI l2, vI l3, vI l4, vI l5]) (st' := [vI 1, vI l3]) (g' := g) k216_61 rfl rfl ?_
    refine q_s (pc' := 63) (ls' := [vR 137, vI l1, vI l2, vI l3, vI l4, vI l5]) (st' := [vI 3, vI 1, vI l3]) (g' := g) k216_62 rfl rfl ?_
    refine q_callI (ls0 := [vI l3, vI 1, vI 3]) (rest := []) (pc' := 66) rfl k216_63 rfl (hy4 rfl rfl rfl rfl) rfl rfl hq_138 rfl (fun q4 => ?_)
    refine q_if (P := q4.1 = 0) (t := 79) (pc' := 69) k216_66 Iff.rfl rfl rfl (fun h5 => ?_) (fun h5 => ?_)
    · refine q_s (pc' := 80) (ls' := [vR 137, vI l1, vI l2, vI l3, vI l4, vI l5]) (st' := [vI 0]) (g' := q4.2) k216_79 rfl rfl ?_
      exact q_e k216_80 rfl rfl rfl
    · refine q_s (pc' := 71) (ls' := [vR 137, vI l1, vI l2, vI l3, vI l4, vI l5]) (st' := [vI l4]) (g' := q4.2) k216_69 rfl rfl ?_
      refine q_s (pc' := 72) (ls' := [vR 137, vI l1, vI l2, vI l3, vI l4, vI l5]) (st' := [vI l1, vI l4]) (g' := q4.2) k216_71 rfl rfl ?_
      refine q_s (pc' := 73) (ls' := [vR 137, vI l1, vI l2, vI l3, vI l4, vI l5]) (st' := [vI l2, vI l1, vI l4]) (g' := q4.2) k216_72 rfl rfl ?_
      refine q_callI (ls0 := [vI l4, vI l1, vI l2]) (rest := []) (pc' := 76) rfl k216_73 rfl (hy4 rfl rfl rfl rfl) rfl rfl hq_138 rfl (fun q6 => ?_)
      refine q_if (P := q6.1 ≠ 0) (t := 81) (pc' := 79) k216_76 Iff.rfl rfl rfl (fun h7 => ?_) (fun h7 => ?_)
      · refine q_s (pc' := 82) (ls' := [vR 137, vI l1, vI l2, vI l3, vI l4, vI l5]) (st' := [vR 137]) (g' := q6.2) k216_81 rfl rfl ?_
        refine q_s (pc' := 84) (ls' := [vR 137, vI l1, vI l2, vI l3, vI l4, vI l5]) (st' := [vI l4, vR 137]) (g' := q6.2) k216_82 rfl rfl ?_
        refine q_putI (w := 26) (pc' := 87) k216_84 rfl rfl rfl rfl ?_
        refine q_s (pc' := 88) (ls' := [vR 137, vI l1, vI l2, vI l3, vI l4, vI l5]) (st' := [vR 137]) (g' := up q6.2 137 26 l4) k216_87 rfl rfl ?_
        refine q_s (pc' := 89) (ls' := [vR 137, vI l1, vI l2, vI l3, vI l4, vI l5]) (st' := [vR 137, vR 137]) (g' := up q6.2 137 26 l4) k216_88 rfl rfl ?_
        refine q_getI (w := 25) (pc' := 92) k216_89 rfl rfl rfl rfl ?_
        refine q_s (pc' := 93) (ls' := [vR 137, vI l1, vI l2, vI l3, vI l4, vI l5]) (st' := [vI l3, vI ((up q6.2 137 26 l4) 137 25), vR 137]) (g' := up q6.2 137 26 l4) k216_92 rfl rfl ?_
        refine q_s (pc' := 94) (ls' := [vR 137, vI l1, vI l2, vI l3, vI l4, vI l5]) (st' := [vI (iw (((up q6.2 137 26 l4) 137 25) + l3)), vR 137]) (g' := up q6.2 137 26 l4) k216_93 rfl rfl ?_
        refine q_putI (w := 25) (pc' := 97) k216_94 rfl rfl rfl rfl ?_
        refine q_s (pc' := 98) (ls' := [vR 137, vI l1, vI l2, vI l3, vI l4, vI l5]) (st' := [vI 1]) (g' := up (up q6.2 137 26 l4) 137 25 (iw (((up q6.2 137 26 l4) 137 25) + l3))) k216_97 rfl rfl ?_
        exact q_e k216_98 rfl rfl rfl
      · refine q_s (pc' := 80) (ls' := [vR 137, vI l1, vI l2, vI l3, vI l4, vI l5]) (st' := [vI 0]) (g' := q6.2) k216_79 rfl rfl ?_
        exact q_e k216_80 rfl rfl rfl
  · refine q_s (pc' := 27) (ls' := [vR 137, vI l1, vI l2, vI l3, vI l4, vI l5]) (st' := [vI l5]) (g' := g) k216_25 rfl rfl ?_
    refine q_s (pc' := 28) (ls' := [vR 137, vI l1, vI l2, vI l3, vI l4, vI l5]) (st' := [vI 3, vI l5]) (g' := g) k216_27 rfl rfl ?_
    refine q_ic (P := 3 ≤ l5) (t := 60) (pc' := 31) k216_28 Iff.rfl rfl rfl (fun h8 => ?_) (fun h8 => ?_)
    · refine q_s (pc' := 61) (ls' := [vR 137, vI l1, vI l2, vI l3, vI l4, vI l5]) (st' := [vI l3]) (g' := g) k216_60 rfl rfl ?_
      refine q_s (pc' := 62) (ls' := [vR 137, vI l1, vI l2, vI l3, vI l4, vI l5]) (st' := [vI 1, vI l3]) (g' := g) k216_61 rfl rfl ?_
      refine q_s (pc' := 63) (ls' := [vR 137, vI l1, vI l2, vI l3, vI l4, vI l5]) (st' := [vI 3, vI 1, vI l3]) (g' := g) k216_62 rfl rfl ?_
      refine q_callI (ls0 := [vI l3, vI 1, vI 3]) (rest := []) (pc' := 66) rfl k216_63 rfl (hy4 rfl rfl rfl rfl) rfl rfl hq_138 rfl (fun q9 => ?_)
      refine q_if (P := q9.1 = 0) (t := 79) (pc' := 69) k216_66 Iff.rfl rfl rfl (fun h10 => ?_) (fun h10 => ?_)
      · refine q_s (pc' := 80) (ls' := [vR 137, vI l1, vI l2, vI l3, vI l4, vI l5]) (st' := [vI 0]) (g' := q9.2) k216_79 rfl rfl ?_
        exact q_e k216_80 rfl rfl rfl
      · refine q_s (pc' := 71) (ls' := [vR 137, vI l1, vI l2, vI l3, vI l4, vI l5]) (st' := [vI l4]) (g' := q9.2) k216_69 rfl rfl ?_
        refine q_s (pc' := 72) (ls' := [vR 137, vI l1, vI l2, vI l3, vI l4, vI l5]) (st' := [vI l1, vI l4]) (g' := q9.2) k216_71 rfl rfl ?_
        refine q_s (pc' := 73) (ls' := [vR 137, vI l1, vI l2, vI l3, vI l4, vI l5]) (st' := [vI l2, vI l1, vI l4]) (g' := q9.2) k216_72 rfl rfl ?_
        refine q_callI (ls0 := [vI l4, vI l1, vI l2]) (rest := []) (pc' := 76) rfl k216_73 rfl (hy4 rfl rfl rfl rfl) rfl rfl hq_138 rfl (fun q11 => ?_)
        refine q_if (P := q11.1 ≠ 0) (t := 81) (pc' := 79) k216_76 Iff.rfl rfl rfl (fun h12 => ?_) (fun h12 => ?_)
        · refine q_s (pc' := 82) (ls' := [vR 137, vI l1, vI l2, vI l3, vI l4, vI l5]) (st' := [vR 137]) (g' := q11.2) k216_81 rfl rfl ?_
          refine q_s (pc' := 84) (ls' := [vR 137, vI l1, vI l2, vI l3, vI l4, vI l5]) (st' := [vI l4, vR 137]) (g' := q11.2) k216_82 rfl rfl ?_
          refine q_putI (w := 26) (pc' := 87) k216_84 rfl rfl rfl rfl ?_
          refine q_s (pc' := 88) (ls' := [vR 137, vI l1, vI l2, vI l3, vI l4, vI l5]) (st' := [vR 137]) (g' := up q11.2 137 26 l4) k216_87 rfl rfl ?_
          refine q_s (pc' := 89) (ls' := [vR 137, vI l1, vI l2, vI l3, vI l4, vI l5]) (st' := [vR 137, vR 137]) (g' := up q11.2 137 26 l4) k216_88 rfl rfl ?_
          refine q_getI (w := 25) (pc' := 92) k216_89 rfl rfl rfl rfl ?_
          refine q_s (pc' := 93) (ls' := [vR 137, vI l1, vI l2, vI l3, vI l4, vI l5]) (st' := [vI l3, vI ((up q11.2 137 26 l4) 137 25), vR 137]) (g' := up q11.2 137 26 l4) k216_92 rfl rfl ?_
          refine q_s (pc' := 94) (ls' := [vR 137, vI l1, vI l2, vI l3, vI l4, vI l5]) (st' := [vI (iw (((up q11.2 137 26 l4) 137 25) + l3)), vR 137]) (g' := up q11.2 137 26 l4) k216_93 rfl rfl ?_
          refine q_putI (w := 25) (pc' := 97) k216_94 rfl rfl rfl rfl ?_
          refine q_s (pc' := 98) (ls' := [vR 137, vI l1, vI l2, vI l3, vI l4, vI l5]) (st' := [vI 1]) (g' := up (up q11.2 137 26 l4) 137 25 (iw (((up q11.2 137 26 l4) 137 25) + l3))) k216_97 rfl rfl ?_
          exact q_e k216_98 rfl rfl rfl
        · refine q_s (pc' := 80) (ls' := [vR 137, vI l1, vI l2, vI l3, vI l4, vI l5]) (st' := [vI 0]) (g' := q11.2) k216_79 rfl rfl ?_
          exact q_e k216_80 rfl rfl rfl
    · refine q_s (pc' := 33) (ls' := [vR 137, vI l1, vI l2, vI l3, vI l4, vI l5]) (st' := [vI 10]) (g' := g) k216_31 rfl rfl ?_
      refine q_s (pc' := 35) (ls' := [vR 137, vI l1, vI l2, vI l3, vI l4, vI l5]) (st' := [vI l4, vI 10]) (g' := g) k216_33 rfl rfl ?_
      refine q_s (pc' := 36) (ls' := [vR 137, vI l1, vI l2, vI l3, vI l4, vI l5]) (st' := [vI (iw (10 * l4))]) (g' := g) k216_35 rfl rfl ?_
      refine q_s (pc' := 37) (ls' := [vR 137, vI l1, vI l2, vI l3, vI l4, vI l5]) (st' := [vR 137, vI (iw (10 * l4))]) (g' := g) k216_36 rfl rfl ?_
      refine q_getF (r := 156) (pc' := 40) k216_37 rfl rfl rfl rfl ?_
      refine q_s (pc' := 41) (ls' := [vR 137, vI l1, vI l2, vI l3, vI l4, vI l5]) (st' := [vR 137, vR 156, vI (iw (10 * l4))]) (g' := g) k216_40 rfl rfl ?_
      refine q_getI (w := 25) (pc' := 44) k216_41 rfl rfl rfl rfl ?_
      refine q_s (pc' := 46) (ls' := [vR 137, vI l1, vI l2, vI l3, vI l4, vI l5]) (st' := [vI l5, vI (g 137 25), vR 156, vI (iw (10 * l4))]) (g' := g) k216_44 rfl rfl ?_
      refine q_s (pc' := 47) (ls' := [vR 137, vI l1, vI l2, vI l3, vI l4, vI l5]) (st' := [vI (iw ((g 137 25) + l5)), vR 156, vI (iw (10 * l4))]) (g' := g) k216_46 rfl rfl ?_
      refine q_iald (n := 120) (pc' := 48) rfl k216_47 rfl rfl (fun h13 => ?_)
      refine q_s (pc' := 49) (ls' := [vR 137, vI l1, vI l2, vI l3, vI l4, vI l5]) (st' := [vI (iw ((iw (10 * l4)) + (g 156 (iw ((g 137 25) + l5)))))]) (g' := g) k216_48 rfl rfl ?_
      refine q_s (pc' := 51) (ls' := [vR 137, vI l1, vI l2, vI l3, vI l4, vI l5]) (st' := [vI 48, vI (iw ((iw (10 * l4)) + (g 156 (iw ((g 137 25) + l5)))))]) (g' := g) k216_49 rfl rfl ?_
      refine q_s (pc' := 52) (ls' := [vR 137, vI l1, vI l2, vI l3, vI l4, vI l5]) (st' := [vI (iw ((iw ((iw (10 * l4)) + (g 156 (iw ((g 137 25) + l5))))) - 48))]) (g' := g) k216_51 rfl rfl ?_
      refine q_s (pc' := 54) (ls' := [vR 137, vI l1, vI l2, vI l3, vI (iw ((iw ((iw (10 * l4)) + (g 156 (iw ((g 137 25) + l5))))) - 48)), vI l5]) (st' := []) (g' := g) k216_52 rfl rfl ?_
      refine q_s (pc' := 57) (ls' := [vR 137, vI l1, vI l2, vI l3, vI (iw ((iw ((iw (10 * l4)) + (g 156 (iw ((g 137 25) + l5))))) - 48)), vI (iw (l5 + 1))]) (st' := []) (g' := g) k216_54 rfl rfl ?_
      refine q_s (pc' := 19) (ls' := [vR 137, vI l1, vI l2, vI l3, vI (iw ((iw ((iw (10 * l4)) + (g 156 (iw ((g 137 25) + l5))))) - 48)), vI (iw (l5 + 1))]) (st' := []) (g' := g) k216_57 rfl rfl ?_
      rfl
set_option maxHeartbeats 4000000 in
theorem jM_ends_eq (L : Nat) (g : AMem) : jM_ends L g = (jM_skip L g).bind (fun q1 => (jM_here L q1).bind (fun q2 => if q2.1 = 59 then (some (1, up q2.2 137 25 (iw ((q2.2 137 25) + 1)))) else (some (0, q2.2)))) := by
  unfold jM_ends
  refine q_s (pc' := 1) (ls' := [vR 137]) (st' := [vR 137]) (g' := g) k217_0 rfl rfl ?_
  refine q_callV (ls0 := [vR 137]) (rest := []) (pc' := 4) rfl k217_1 rfl (hy4 rfl rfl rfl rfl) rfl rfl hq_213 rfl (fun q1 => ?_)
  refine q_s (pc' := 5) (ls' := [vR 137]) (st' := [vR 137]) (g' := q1) k217_4 rfl rfl ?_
  refine q_callI (ls0 := [vR 137]) (rest := []) (pc' := 8) rfl k217_5 rfl (hy4 rfl rfl rfl rfl) rfl rfl hq_212 rfl (fun q2 => ?_)
  refine q_s (pc' := 10) (ls' := [vR 137]) (st' := [vI 59, vI q2.1]) (g' := q2.2) k217_8 rfl rfl ?_
  refine q_ic (P := q2.1 = 59) (t := 15) (pc' := 13) k217_10 Iff.rfl rfl rfl (fun h3 => ?_) (fun h3 => ?_)
  · refine q_s (pc' := 16) (ls' := [vR 137]) (st' := [vR 137]) (g' := q2.2) k217_15 rfl rfl ?_
    refine q_s (pc' := 17) (ls' := [vR 137]) (st' := [vR 137, vR 137]) (g' := q2.2) k217_16 rfl rfl ?_
    refine q_getI (w := 25) (pc' := 20) k217_17 rfl rfl rfl rfl ?_
    refine q_s (pc' := 21) (ls' := [vR 137]) (st' := [vI 1, vI (q2.2 137 25), vR 137]) (g' := q2.2) k217_20 rfl rfl ?_
    refine q_s (pc' := 22) (ls' := [vR 137]) (st' := [vI (iw ((q2.2 137 25) + 1)), vR 137]) (g' := q2.2) k217_21 rfl rfl ?_
    refine q_putI (w := 25) (pc' := 25) k217_22 rfl rfl rfl rfl ?_
    refine q_s (pc' := 26) (ls' := [vR 137]) (st' := [vI 1]) (g' := up q2.2 137 25 (iw ((q2.2 137 25) + 1))) k217_25 rfl rfl ?_
    exact q_e k217_26 rfl rfl rfl
  · refine q_s (pc' := 14) (ls' := [vR 137]) (st' := [vI 0]) (g' := q2.2) k217_13 rfl rfl ?_
    exact q_e k217_14 rfl rfl rfl
set_option maxHeartbeats 4000000 in
theorem jM_readsBlock_eq (L : Nat) (g : AMem) : jM_readsBlock L g = if g 137 1 ≠ 10 then ((jM_newBlock L (up g 137 25 (iw ((g 137 25) + 1)))).bind (fun q2 => (jM_skip L q2.2).bind (fun q3 => jM_readsBlock_30 L q2.1 vU q3))) else (some (0, g)) := by
  unfold jM_readsBlock
  refine q_s (pc' := 1) (ls' := [vR 137, vU, vU]) (st' := [vR 137]) (g' := g) k218_0 rfl rfl ?_
  refine q_getI (w := 1) (pc' := 4) k218_1 rfl rfl rfl rfl ?_
  refine q_s (pc' := 6) (ls' := [vR 137, vU, vU]) (st' := [vI 10, vI (g 137 1)]) (g' := g) k218_4 rfl rfl ?_
  refine q_ic (P := g 137 1 ≠ 10) (t := 11) (pc' := 9) k218_6 Iff.rfl rfl rfl (fun h1 => ?_) (fun h1 => ?_)
  · refine q_s (pc' := 12) (ls' := [vR 137, vU, vU]) (st' := [vR 137]) (g' := g) k218_11 rfl rfl ?_
    refine q_s (pc' := 13) (ls' := [vR 137, vU, vU]) (st' := [vR 137, vR 137]) (g' := g) k218_12 rfl rfl ?_
    refine q_getI (w := 25) (pc' := 16) k218_13 rfl rfl rfl rfl ?_
    refine q_s (pc' := 17) (ls' := [vR 137, vU, vU]) (st' := [vI 1, vI (g 137 25), vR 137]) (g' := g) k218_16 rfl rfl ?_
    refine q_s (pc' := 18) (ls' := [vR 137, vU, vU]) (st' := [vI (iw ((g 137 25) + 1)), vR 137]) (g' := g) k218_17 rfl rfl ?_
    refine q_putI (w := 25) (pc' := 21) k218_18 rfl rfl rfl rfl ?_
    refine q_s (pc' := 22) (ls' := [vR 137, vU, vU]) (st' := [vR 137]) (g' := up g 137 25 (iw ((g 137 25) + 1))) k218_21 rfl rfl ?_
    refine q_callI (ls0 := [vR 137]) (rest := []) (pc' := 25) rfl k218_22 rfl (hy4 rfl rfl rfl rfl) rfl rfl hq_151 rfl (fun q2 => ?_)
    refine q_s (pc' := 26) (ls' := [vR 137, vI q2.1, vU]) (st' := []) (g' := q2.2) k218_25 rfl rfl ?_
    refine q_s (pc' := 27) (ls' := [vR 137, vI q2.1, vU]) (st' := [vR 137]) (g' := q2.2) k218_26 rfl rfl ?_
    refine q_callV (ls0 := [vR 137]) (rest := []) (pc' := 30) rfl k218_27 rfl (hy4 rfl rfl rfl rfl) rfl rfl hq_213 rfl (fun q3 => ?_)
    rfl
  · refine q_s (pc' := 10) (ls' := [vR 137, vU, vU]) (st' := [vI 0]) (g' := g) k218_9 rfl rfl ?_
    exact q_e k218_10 rfl rfl rfl
set_option maxHeartbeats 4000000 in
theorem jM_readsBlock_30_eq (L : Nat) (l1 : Int) (w2 : AVal) (g : AMem) : jM_readsBlock_30 L l1 w2 g = (jM_here L g).bind (fun q4 => (jM_isFigure L q4.1 q4.2).bind (fun q5 => if q5.1 = 0 then ((jM_ends L q5.2).bind (fun q7 => if q7.1 = 0 ∨ q7.1 = 1 then some (q7.1, q7.2) else none)) else (if 0 ≤ l1 ∧ l1 < 10 then (if q5.2 139 l1 = 6 then (some (0, q5.2)) else ((jM_number L 0 999 q5.2).bind (fun q10 => if q10.1 ≠ 0 then ((jM_isRegion L (q10.2 137 26) q10.2).bind (fun q12 => if q12.1 = 0 then (some (0, up q12.2 137 25 (q5.2 137 25))) else ((jM_isTaken L l1 (q12.2 137 26) q12.2).bind (fun q14 => if q14.1 = 0 then ((jM_newParameter L l1 (q14.2 137 26) q14.2).bind (fun q16 => (jM_skip L q16.2).bind (fun q17 => jM_readsBlock_30 L l1 (vI (q5.2 137 25)) q17))) else (some (0, up q14.2 137 25 (q5.2 137 25))))))) else (some (0, q10.2))))) else none))) := by
  unfold jM_readsBlock_30
  refine q_s (pc' := 31) (ls' := [vR 137, vI l1, w2]) (st' := [vR 137]) (g' := g) k218_30 rfl rfl ?_
  refine q_callI (ls0 := [vR 137]) (rest := []) (pc' := 34) rfl k218_31 rfl (hy4 rfl rfl rfl rfl) rfl rfl hq_212 rfl (fun q4 => ?_)
  refine q_callI (ls0 := [vI q4.1]) (rest := []) (pc' := 37) rfl k218_34 rfl (hy4 rfl rfl rfl rfl) rfl rfl hq_214 rfl (fun q5 => ?_)
  refine q_if (P := q5.1 = 0) (t := 115) (pc' := 40) k218_37 Iff.rfl rfl rfl (fun h6 => ?_) (fun h6 => ?_)
  · refine q_s (pc' := 116) (ls' := [vR 137, vI l1, w2]) (st' := [vR 137]) (g' := q5.2) k218_115 rfl rfl ?_
    refine q_callI (ls0 := [vR 137]) (rest := []) (pc' := 119) rfl k218_116 rfl (hy4 rfl rfl rfl rfl) rfl rfl hq_217 rfl (fun q7 => ?_)
    exact q_eb rfl k218_119 rfl rfl
  · refine q_s (pc' := 41) (ls' := [vR 137, vI l1, w2]) (st' := [vR 137]) (g' := q5.2) k218_40 rfl rfl ?_
    refine q_getI (w := 25) (pc' := 44) k218_41 rfl rfl rfl rfl ?_
    refine q_s (pc' := 45) (ls' := [vR 137, vI l1, vI (q5.2 137 25)]) (st' := []) (g' := q5.2) k218_44 rfl rfl ?_
    refine q_s (pc' := 46) (ls' := [vR 137, vI l1, vI (q5.2 137 25)]) (st' := [vR 137]) (g' := q5.2) k218_45 rfl rfl ?_
    refine q_getF (r := 139) (pc' := 49) k218_46 rfl rfl rfl rfl ?_
    refine q_s (pc' := 50) (ls' := [vR 137, vI l1, vI (q5.2 137 25)]) (st' := [vI l1, vR 139]) (g' := q5.2) k218_49 rfl rfl ?_
    refine q_iald (n := 10) (pc' := 51) rfl k218_50 rfl rfl (fun h8 => ?_)
    refine q_s (pc' := 53) (ls' := [vR 137, vI l1, vI (q5.2 137 25)]) (st' := [vI 6, vI (q5.2 139 l1)]) (g' := q5.2) k218_51 rfl rfl ?_
    refine q_ic (P := q5.2 139 l1 = 6) (t := 67) (pc' := 56) k218_53 Iff.rfl rfl rfl (fun h9 => ?_) (fun h9 => ?_)
    · refine q_s (pc' := 68) (ls' := [vR 137, vI l1, vI (q5.2 137 25)]) (st' := [vI 0]) (g' := q5.2) k218_67 rfl rfl ?_
      exact q_e k218_68 rfl rfl rfl
    · refine q_s (pc' := 57) (ls' := [vR 137, vI l1, vI (q5.2 137 25)]) (st' := [vR 137]) (g' := q5.2) k218_56 rfl rfl ?_
      refine q_s (pc' := 58) (ls' := [vR 137, vI l1, vI (q5.2 137 25)]) (st' := [vI 0, vR 137]) (g' := q5.2) k218_57 rfl rfl ?_
      refine q_s (pc' := 61) (ls' := [vR 137, vI l1, vI (q5.2 137 25)]) (st' := [vI 999, vI 0, vR 137]) (g' := q5.2) k218_58 rfl rfl ?_
      refine q_callI (ls0 := [vR 137, vI 0, vI 999, vU, vU, vU]) (rest := []) (pc' := 64) rfl k218_61 rfl (hy4 rfl rfl rfl rfl) rfl rfl hq_216 rfl (fun q10 => ?_)
      refine q_if (P := q10.1 ≠ 0) (t := 69) (pc' := 67) k218_64 Iff.rfl rfl rfl (fun h11 => ?_) (fun h11 => ?_)
      · refine q_s (pc' := 70) (ls' := [vR 137, vI l1, vI (q5.2 137 25)]) (st' := [vR 137]) (g' := q10.2) k218_69 rfl rfl ?_
        refine q_getI (w := 26) (pc' := 73) k218_70 rfl rfl rfl rfl ?_
        refine q_callI (ls0 := [vI (q10.2 137 26)]) (rest := []) (pc' := 76) rfl k218_73 rfl (hy4 rfl rfl rfl rfl) rfl rfl hq_142 rfl (fun q12 => ?_)
        refine q_if (P := q12.1 = 0) (t := 91) (pc' := 79) k218_76 Iff.rfl rfl rfl (fun h13 => ?_) (fun h13 => ?_)
        · refine q_s (pc' := 92) (ls' := [vR 137, vI l1, vI (q5.2 137 25)]) (st' := [vR 137]) (g' := q12.2) k218_91 rfl rfl ?_
          refine q_s (pc' := 93) (ls' := [vR 137, vI l1, vI (q5.2 137 25)]) (st' := [vI (q5.2 137 25), vR 137]) (g' := q12.2) k218_92 rfl rfl ?_
          refine q_putI (w := 25) (pc' := 96) k218_93 rfl rfl rfl rfl ?_
          refine q_s (pc' := 97) (ls' := [vR 137, vI l1, vI (q5.2 137 25)]) (st' := [vI 0]) (g' := up q12.2 137 25 (q5.2 137 25)) k218_96 rfl rfl ?_
          exact q_e k218_97 rfl rfl rfl
        · refine q_s (pc' := 80) (ls' := [vR 137, vI l1, vI (q5.2 137 25)]) (st' := [vR 137]) (g' := q12.2) k218_79 rfl rfl ?_
          refine q_s (pc' := 81) (ls' := [vR 137, vI l1, vI (q5.2 137 25)]) (st' := [vI l1, vR 137]) (g' := q12.2) k218_80 rfl rfl ?_
          refine q_s (pc' := 82) (ls' := [vR 137, vI l1, vI (q5.2 137 25)]) (st' := [vR 137, vI l1, vR 137]) (g' := q12.2) k218_81 rfl rfl ?_
          refine q_getI (w := 26) (pc' := 85) k218_82 rfl rfl rfl rfl ?_
          refine q_callI (ls0 := [vR 137, vI l1, vI (q12.2 137 26), vU, vU]) (rest := []) (pc' := 88) rfl k218_85 rfl (hy4 rfl rfl rfl rfl) rfl rfl hq_153 rfl (fun q14 => ?_)
          refine q_if (P := q14.1 = 0) (t := 98) (pc' := 91) k218_88 Iff.rfl rfl rfl (fun h15 => ?_) (fun h15 => ?_)
          · refine q_s (pc' := 99) (ls' := [vR 137, vI l1, vI (q5.2 137 25)]) (st' := [vR 137]) (g' := q14.2) k218_98 rfl rfl ?_
            refine q_s (pc' := 100) (ls' := [vR 137, vI l1, vI (q5.2 137 25)]) (st' := [vI l1, vR 137]) (g' := q14.2) k218_99 rfl rfl ?_
            refine q_s (pc' := 101) (ls' := [vR 137, vI l1, vI (q5.2 137 25)]) (st' := [vR 137, vI l1, vR 137]) (g' := q14.2) k218_100 rfl rfl ?_
            refine q_getI (w := 26) (pc' := 104) k218_101 rfl rfl rfl rfl ?_
            refine q_callI (ls0 := [vR 137, vI l1, vI (q14.2 137 26), vU, vU]) (rest := []) (pc' := 107) rfl k218_104 rfl (hy4 rfl rfl rfl rfl) rfl rfl hq_154 rfl (fun q16 => ?_)
            refine q_s (pc' := 108) (ls' := [vR 137, vI l1, vI (q5.2 137 25)]) (st' := []) (g' := q16.2) k218_107 rfl rfl ?_
            refine q_s (pc' := 109) (ls' := [vR 137, vI l1, vI (q5.2 137 25)]) (st' := [vR 137]) (g' := q16.2) k218_108 rfl rfl ?_
            refine q_callV (ls0 := [vR 137]) (rest := []) (pc' := 112) rfl k218_109 rfl (hy4 rfl rfl rfl rfl) rfl rfl hq_213 rfl (fun q17 => ?_)
            refine q_s (pc' := 30) (ls' := [vR 137, vI l1, vI (q5.2 137 25)]) (st' := []) (g' := q17) k218_112 rfl rfl ?_
            rfl
          · refine q_s (pc' := 92) (ls' := [vR 137, vI l1, vI (q5.2 137 25)]) (st' := [vR 137]) (g' := q14.2) k218_91 rfl rfl ?_
            refine q_s (pc' := 93) (ls' := [vR 137, vI l1, vI (q5.2 137 25)]) (st' := [vI (q5.2 137 25), vR 137]) (g' := q14.2) k218_92 rfl rfl ?_
            refine q_putI (w := 25) (pc' := 96) k218_93 rfl rfl rfl rfl ?_
            refine q_s (pc' := 97) (ls' := [vR 137, vI l1, vI (q5.2 137 25)]) (st' := [vI 0]) (g' := up q14.2 137 25 (q5.2 137 25)) k218_96 rfl rfl ?_
            exact q_e k218_97 rfl rfl rfl
      · refine q_s (pc' := 68) (ls' := [vR 137, vI l1, vI (q5.2 137 25)]) (st' := [vI 0]) (g' := q10.2) k218_67 rfl rfl ?_
        exact q_e k218_68 rfl rfl rfl
set_option maxHeartbeats 4000000 in
theorem jM_readsConstant_eq (L : Nat) (g : AMem) : jM_readsConstant L g = (jM_figures L (iw ((g 137 25) + 1)) g).bind (fun q1 => jM_readsConstant_15 L q1.1 0 0 q1.2) := by
  unfold jM_readsConstant
  refine q_s (pc' := 1) (ls' := [vR 137, vU, vU, vU]) (st' := [vR 137]) (g' := g) k219_0 rfl rfl ?_
  refine q_s (pc' := 2) (ls' := [vR 137, vU, vU, vU]) (st' := [vR 137, vR 137]) (g' := g) k219_1 rfl rfl ?_
  refine q_getI (w := 25) (pc' := 5) k219_2 rfl rfl rfl rfl ?_
  refine q_s (pc' := 6) (ls' := [vR 137, vU, vU, vU]) (st' := [vI 1, vI (g 137 25), vR 137]) (g' := g) k219_5 rfl rfl ?_
  refine q_s (pc' := 7) (ls' := [vR 137, vU, vU, vU]) (st' := [vI (iw ((g 137 25) + 1)), vR 137]) (g' := g) k219_6 rfl rfl ?_
  refine q_callI (ls0 := [vR 137, vI (iw ((g 137 25) + 1)), vU]) (rest := []) (pc' := 10) rfl k219_7 rfl (hy4 rfl rfl rfl rfl) rfl rfl hq_215 rfl (fun q1 => ?_)
  refine q_s (pc' := 11) (ls' := [vR 137, vI q1.1, vU, vU]) (st' := []) (g' := q1.2) k219_10 rfl rfl ?_
  refine q_s (pc' := 12) (ls' := [vR 137, vI q1.1, vU, vU]) (st' := [vI 0]) (g' := q1.2) k219_11 rfl rfl ?_
  refine q_s (pc' := 13) (ls' := [vR 137, vI q1.1, vI 0, vU]) (st' := []) (g' := q1.2) k219_12 rfl rfl ?_
  refine q_s (pc' := 14) (ls' := [vR 137, vI q1.1, vI 0, vU]) (st' := [vI 0]) (g' := q1.2) k219_13 rfl rfl ?_
  refine q_s (pc' := 15) (ls' := [vR 137, vI q1.1, vI 0, vI 0]) (st' := []) (g' := q1.2) k219_14 rfl rfl ?_
  rfl
set_option maxHeartbeats 4000000 in
theorem jM_readsConstant_15_eq (L : Nat) (l1 : Int) (l2 : Int) (l3 : Int) (g : AMem) : jM_readsConstant_15 L l1 l2 l3 g = if l1 ≤ l3 then ((jM_in L l1 1 3 g).bind (fun q3 => if q3.1 = 0 then (some (0, q3.2)) else (if l2 ≤ 99 then (some (iw ((-1) - l2), up q3.2 137 25 (iw ((q3.2 137 25) + (iw (l1 + 1)))))) else (some (0, q3.2))))) else (if 3 ≤ l3 then ((jM_in L l1 1 3 g).bind (fun q7 => if q7.1 = 0 then (some (0, q7.2)) else (if l2 ≤ 99 then (some (iw ((-1) - l2), up q7.2 137 25 (iw ((q7.2 137 25) + (iw (l1 + 1)))))) else (some (0, q7.2))))) else (if 0 ≤ iw ((iw ((g 137 25) + 1)) + l3) ∧ iw ((iw ((g 137 25) + 1)) + l3) < 120 then (jM_readsConstant_15 L l1 (iw ((iw ((iw (10 * l2)) + (g 156 (iw ((iw ((g 137 25) + 1)) + l3))))) - 48)) (iw (l3 + 1)) g) else none)) := by
  unfold jM_readsConstant_15
  refine q_s (pc' := 16) (ls' := [vR 137, vI l1, vI l2, vI l3]) (st' := [vI l3]) (g' := g) k219_15 rfl rfl ?_
  refine q_s (pc' := 17) (ls' := [vR 137, vI l1, vI l2, vI l3]) (st' := [vI l1, vI l3]) (g' := g) k219_16 rfl rfl ?_
  refine q_ic (P := l1 ≤ l3) (t := 53) (pc' := 20) k219_17 Iff.rfl rfl rfl (fun h2 => ?_) (fun h2 => ?_)
  · refine q_s (pc' := 54) (ls' := [vR 137, vI l1, vI l2, vI l3]) (st' := [vI l1]) (g' := g) k219_53 rfl rfl ?_
    refine q_s (pc' := 55) (ls' := [vR 137, vI l1, vI l2, vI l3]) (st' := [vI 1, vI l1]) (g' := g) k219_54 rfl rfl ?_
    refine q_s (pc' := 56) (ls' := [vR 137, vI l1, vI l2, vI l3]) (st' := [vI 3, vI 1, vI l1]) (g' := g) k219_55 rfl rfl ?_
    refine q_callI (ls0 := [vI l1, vI 1, vI 3]) (rest := []) (pc' := 59) rfl k219_56 rfl (hy4 rfl rfl rfl rfl) rfl rfl hq_138 rfl (fun q3 => ?_)
    refine q_if (P := q3.1 = 0) (t := 68) (pc' := 62) k219_59 Iff.rfl rfl rfl (fun h4 => ?_) (fun h4 => ?_)
    · refine q_s (pc' := 69) (ls' := [vR 137, vI l1, vI l2, vI l3]) (st' := [vI 0]) (g' := q3.2) k219_68 rfl rfl ?_
      exact q_e k219_69 rfl rfl rfl
    · refine q_s (pc' := 63) (ls' := [vR 137, vI l1, vI l2, vI l3]) (st' := [vI l2]) (g' := q3.2) k219_62 rfl rfl ?_
      refine q_s (pc' := 65) (ls' := [vR 137, vI l1, vI l2, vI l3]) (st' := [vI 99, vI l2]) (g' := q3.2) k219_63 rfl rfl ?_
      refine q_ic (P := l2 ≤ 99) (t := 70) (pc' := 68) k219_65 Iff.rfl rfl rfl (fun h5 => ?_) (fun h5 => ?_)
      · refine q_s (pc' := 71) (ls' := [vR 137, vI l1, vI l2, vI l3]) (st' := [vR 137]) (g' := q3.2) k219_70 rfl rfl ?_
        refine q_s (pc' := 72) (ls' := [vR 137, vI l1, vI l2, vI l3]) (st' := [vR 137, vR 137]) (g' := q3.2) k219_71 rfl rfl ?_
        refine q_getI (w := 25) (pc' := 75) k219_72 rfl rfl rfl rfl ?_
        refine q_s (pc' := 76) (ls' := [vR 137, vI l1, vI l2, vI l3]) (st' := [vI l1, vI (q3.2 137 25), vR 137]) (g' := q3.2) k219_75 rfl rfl ?_
        refine q_s (pc' := 77) (ls' := [vR 137, vI l1, vI l2, vI l3]) (st' := [vI 1, vI l1, vI (q3.2 137 25), vR 137]) (g' := q3.2) k219_76 rfl rfl ?_
        refine q_s (pc' := 78) (ls' := [vR 137, vI l1, vI l2, vI l3]) (st' := [vI (iw (l1 + 1)), vI (q3.2 137 25), vR 137]) (g' := q3.2) k219_77 rfl rfl ?_
        refine q_s (pc' := 79) (ls' := [vR 137, vI l1, vI l2, vI l3]) (st' := [vI (iw ((q3.2 137 25) + (iw (l1 + 1)))), vR 137]) (g' := q3.2) k219_78 rfl rfl ?_
        refine q_putI (w := 25) (pc' := 82) k219_79 rfl rfl rfl rfl ?_
        refine q_s (pc' := 83) (ls' := [vR 137, vI l1, vI l2, vI l3]) (st' := [vI (-1)]) (g' := up q3.2 137 25 (iw ((q3.2 137 25) + (iw (l1 + 1))))) k219_82 rfl rfl ?_
        refine q_s (pc' := 84) (ls' := [vR 137, vI l1, vI l2, vI l3]) (st' := [vI l2, vI (-1)]) (g' := up q3.2 137 25 (iw ((q3.2 137 25) + (iw (l1 + 1))))) k219_83 rfl rfl ?_
        refine q_s (pc' := 85) (ls' := [vR 137, vI l1, vI l2, vI l3]) (st' := [vI (iw ((-1) - l2))]) (g' := up q3.2 137 25 (iw ((q3.2 137 25) + (iw (l1 + 1))))) k219_84 rfl rfl ?_
        exact q_e k219_85 rfl rfl rfl
      · refine q_s (pc' := 69) (ls' := [vR 137, vI l1, vI l2, vI l3]) (st' := [vI 0]) (g' := q3.2) k219_68 rfl rfl ?_
        exact q_e k219_69 rfl rfl rfl
  · refine q_s (pc' := 21) (ls' := [vR 137, vI l1, vI l2, vI l3]) (st' := [vI l3]) (g' := g) k219_20 rfl rfl ?_
    refine q_s (pc' := 22) (ls' := [vR 137, vI l1, vI l2, vI l3]) (st' := [vI 3, vI l3]) (g' := g) k219_21 rfl rfl ?_
    refine q_ic (P := 3 ≤ l3) (t := 53) (pc' := 25) k219_22 Iff.rfl rfl rfl (fun h6 => ?_) (fun h6 => ?_)
    · refine q_s (pc' := 54) (ls' := [vR 137, vI l1, vI l2, vI l3]) (st' := [vI l1]) (g' := g) k219_53 rfl rfl ?_
      refine q_s (pc' := 55) (ls' := [vR 137, vI l1, vI l2, vI l3]) (st' := [vI 1, vI l1]) (g' := g) k219_54 rfl rfl ?_
      refine q_s (pc' := 56) (ls' := [vR 137, vI l1, vI l2, vI l3]) (st' := [vI 3, vI 1, vI l1]) (g' := g) k219_55 rfl rfl ?_
      refine q_callI (ls0 := [vI l1, vI 1, vI 3]) (rest := []) (pc' := 59) rfl k219_56 rfl (hy4 rfl rfl rfl rfl) rfl rfl hq_138 rfl (fun q7 => ?_)
      refine q_if (P := q7.1 = 0) (t := 68) (pc' := 62) k219_59 Iff.rfl rfl rfl (fun h8 => ?_) (fun h8 => ?_)
      · refine q_s (pc' := 69) (ls' := [vR 137, vI l1, vI l2, vI l3]) (st' := [vI 0]) (g' := q7.2) k219_68 rfl rfl ?_
        exact q_e k219_69 rfl rfl rfl
      · refine q_s (pc' := 63) (ls' := [vR 137, vI l1, vI l2, vI l3]) (st' := [vI l2]) (g' := q7.2) k219_62 rfl rfl ?_
        refine q_s (pc' := 65) (ls' := [vR 137, vI l1, vI l2, vI l3]) (st' := [vI 99, vI l2]) (g' := q7.2) k219_63 rfl rfl ?_
        refine q_ic (P := l2 ≤ 99) (t := 70) (pc' := 68) k219_65 Iff.rfl rfl rfl (fun h9 => ?_) (fun h9 => ?_)
        · refine q_s (pc' := 71) (ls' := [vR 137, vI l1, vI l2, vI l3]) (st' := [vR 137]) (g' := q7.2) k219_70 rfl rfl ?_
          refine q_s (pc' := 72) (ls' := [vR 137, vI l1, vI l2, vI l3]) (st' := [vR 137, vR 137]) (g' := q7.2) k219_71 rfl rfl ?_
          refine q_getI (w := 25) (pc' := 75) k219_72 rfl rfl rfl rfl ?_
          refine q_s (pc' := 76) (ls' := [vR 137, vI l1, vI l2, vI l3]) (st' := [vI l1, vI (q7.2 137 25), vR 137]) (g' := q7.2) k219_75 rfl rfl ?_
          refine q_s (pc' := 77) (ls' := [vR 137, vI l1, vI l2, vI l3]) (st' := [vI 1, vI l1, vI (q7.2 137 25), vR 137]) (g' := q7.2) k219_76 rfl rfl ?_
          refine q_s (pc' := 78) (ls' := [vR 137, vI l1, vI l2, vI l3]) (st' := [vI (iw (l1 + 1)), vI (q7.2 137 25), vR 137]) (g' := q7.2) k219_77 rfl rfl ?_
          refine q_s (pc' := 79) (ls' := [vR 137, vI l1, vI l2, vI l3]) (st' := [vI (iw ((q7.2 137 25) + (iw (l1 + 1)))), vR 137]) (g' := q7.2) k219_78 rfl rfl ?_
          refine q_putI (w := 25) (pc' := 82) k219_79 rfl rfl rfl rfl ?_
          refine q_s (pc' := 83) (ls' := [vR 137, vI l1, vI l2, vI l3]) (st' := [vI (-1)]) (g' := up q7.2 137 25 (iw ((q7.2 137 25) + (iw (l1 + 1))))) k219_82 rfl rfl ?_
          refine q_s (pc' := 84) (ls' := [vR 137, vI l1, vI l2, vI l3]) (st' := [vI l2, vI (-1)]) (g' := up q7.2 137 25 (iw ((q7.2 137 25) + (iw (l1 + 1))))) k219_83 rfl rfl ?_
          refine q_s (pc' := 85) (ls' := [vR 137, vI l1, vI l2, vI l3]) (st' := [vI (iw ((-1) - l2))]) (g' := up q7.2 137 25 (iw ((q7.2 137 25) + (iw (l1 + 1))))) k219_84 rfl rfl ?_
          exact q_e k219_85 rfl rfl rfl
        · refine q_s (pc' := 69) (ls' := [vR 137, vI l1, vI l2, vI l3]) (st' := [vI 0]) (g' := q7.2) k219_68 rfl rfl ?_
          exact q_e k219_69 rfl rfl rfl
    · refine q_s (pc' := 27) (ls' := [vR 137, vI l1, vI l2, vI l3]) (st' := [vI 10]) (g' := g) k219_25 rfl rfl ?_
      refine q_s (pc' := 28) (ls' := [vR 137, vI l1, vI l2, vI l3]) (st' := [vI l2, vI 10]) (g' := g) k219_27 rfl rfl ?_
      refine q_s (pc' := 29) (ls' := [vR 137, vI l1, vI l2, vI l3]) (st' := [vI (iw (10 * l2))]) (g' := g) k219_28 rfl rfl ?_
      refine q_s (pc' := 30) (ls' := [vR 137, vI l1, vI l2, vI l3]) (st' := [vR 137, vI (iw (10 * l2))]) (g' := g) k219_29 rfl rfl ?_
      refine q_getF (r := 156) (pc' := 33) k219_30 rfl rfl rfl rfl ?_
      refine q_s (pc' := 34) (ls' := [vR 137, vI l1, vI l2, vI l3]) (st' := [vR 137, vR 156, vI (iw (10 * l2))]) (g' := g) k219_33 rfl rfl ?_
      refine q_getI (w := 25) (pc' := 37) k219_34 rfl rfl rfl rfl ?_
      refine q_s (pc' := 38) (ls' := [vR 137, vI l1, vI l2, vI l3]) (st' := [vI 1, vI (g 137 25), vR 156, vI (iw (10 * l2))]) (g' := g) k219_37 rfl rfl ?_
      refine q_s (pc' := 39) (ls' := [vR 137, vI l1, vI l2, vI l3]) (st' := [vI (iw ((g 137 25) + 1)), vR 156, vI (iw (10 * l2))]) (g' := g) k219_38 rfl rfl ?_
      refine q_s (pc' := 40) (ls' := [vR 137, vI l1, vI l2, vI l3]) (st' := [vI l3, vI (iw ((g 137 25) + 1)), vR 156, vI (iw (10 * l2))]) (g' := g) k219_39 rfl rfl ?_
      refine q_s (pc' := 41) (ls' := [vR 137, vI l1, vI l2, vI l3]) (st' := [vI (iw ((iw ((g 137 25) + 1)) + l3)), vR 156, vI (iw (10 * l2))]) (g' := g) k219_40 rfl rfl ?_
      refine q_iald (n := 120) (pc' := 42) rfl k219_41 rfl rfl (fun h10 => ?_)
      refine q_s (pc' := 43) (ls' := [vR 137, vI l1, vI l2, vI l3]) (st' := [vI (iw ((iw (10 * l2)) + (g 156 (iw ((iw ((g 137 25) + 1)) + l3)))))]) (g' := g) k219_42 rfl rfl ?_
      refine q_s (pc' := 45) (ls' := [vR 137, vI l1, vI l2, vI l3]) (st' := [vI 48, vI (iw ((iw (10 * l2)) + (g 156 (iw ((iw ((g 137 25) + 1)) + l3)))))]) (g' := g) k219_43 rfl rfl ?_
      refine q_s (pc' := 46) (ls' := [vR 137, vI l1, vI l2, vI l3]) (st' := [vI (iw ((iw ((iw (10 * l2)) + (g 156 (iw ((iw ((g 137 25) + 1)) + l3))))) - 48))]) (g' := g) k219_45 rfl rfl ?_
      refine q_s (pc' := 47) (ls' := [vR 137, vI l1, vI (iw ((iw ((iw (10 * l2)) + (g 156 (iw ((iw ((g 137 25) + 1)) + l3))))) - 48)), vI l3]) (st' := []) (g' := g) k219_46 rfl rfl ?_
      refine q_s (pc' := 50) (ls' := [vR 137, vI l1, vI (iw ((iw ((iw (10 * l2)) + (g 156 (iw ((iw ((g 137 25) + 1)) + l3))))) - 48)), vI (iw (l3 + 1))]) (st' := []) (g' := g) k219_47 rfl rfl ?_
      refine q_s (pc' := 15) (ls' := [vR 137, vI l1, vI (iw ((iw ((iw (10 * l2)) + (g 156 (iw ((iw ((g 137 25) + 1)) + l3))))) - 48)), vI (iw (l3 + 1))]) (st' := []) (g' := g) k219_50 rfl rfl ?_
      rfl
set_option maxHeartbeats 4000000 in
theorem jM_readsGiven_eq (L : Nat) (a1 : Int) (a2 : Int) (g : AMem) : jM_readsGiven L a1 a2 g = (jM_skip L g).bind (fun q1 => (jM_here L q1).bind (fun q2 => if q2.1 ≠ 35 then ((jM_number L 0 999 q2.2).bind (fun q4 => if q4.1 = 0 then (some (0, up q4.2 137 25 (q1 137 25))) else (if q4.2 137 26 = 0 then (some (0, up q4.2 137 25 (q1 137 25))) else ((jM_mayBeGiven L a1 a2 (q4.2 137 26) q4.2).bind (fun q7 => if q7.1 ≠ 0 then (if 0 ≤ iw ((iw (6 * a1)) + a2) ∧ iw ((iw (6 * a1)) + a2) < 96 then (some (1, up q7.2 144 (iw ((iw (6 * a1)) + a2)) (q4.2 137 26))) else none) else (some (0, up q7.2 137 25 (q1 137 25)))))))) else ((jM_readsConstant L q2.2).bind (fun q10 => if q10.1 = 0 then (some (0, up q10.2 137 25 (q1 137 25))) else ((jM_mayBeGiven L a1 a2 q10.1 q10.2).bind (fun q12 => if q12.1 ≠ 0 then (if 0 ≤ iw ((iw (6 * a1)) + a2) ∧ iw ((iw (6 * a1)) + a2) < 96 then (some (1, up q12.2 144 (iw ((iw (6 * a1)) + a2)) q10.1)) else none) else (some (0, up q12.2 137 25 (q1 137 25))))))))) := by
  unfold jM_readsGiven
  refine q_s (pc' := 1) (ls' := [vR 137, vI a1, vI a2, vU, vU]) (st' := [vR 137]) (g' := g) k220_0 rfl rfl ?_
  refine q_callV (ls0 := [vR 137]) (rest := []) (pc' := 4) rfl k220_1 rfl (hy4 rfl rfl rfl rfl) rfl rfl hq_213 rfl (fun q1 => ?_)
  refine q_s (pc' := 5) (ls' := [vR 137, vI a1, vI a2, vU, vU]) (st' := [vR 137]) (g' := q1) k220_4 rfl rfl ?_
  refine q_getI (w := 25) (pc' := 8) k220_5 rfl rfl rfl rfl ?_
  refine q_s (pc' := 9) (ls' := [vR 137, vI a1, vI a2, vI (q1 137 25), vU]) (st' := []) (g' := q1) k220_8 rfl rfl ?_
  refine q_s (pc' := 10) (ls' := [vR 137, vI a1, vI a2, vI (q1 137 25), vU]) (st' := [vI 0]) (g' := q1) k220_9 rfl rfl ?_
  refine q_s (pc' := 12) (ls' := [vR 137, vI a1, vI a2, vI (q1 137 25), vI 0]) (st' := []) (g' := q1) k220_10 rfl rfl ?_
  refine q_s (pc' := 13) (ls' := [vR 137, vI a1, vI a2, vI (q1 137 25), vI 0]) (st' := [vR 137]) (g' := q1) k220_12 rfl rfl ?_
  refine q_callI (ls0 := [vR 137]) (rest := []) (pc' := 16) rfl k220_13 rfl (hy4 rfl rfl rfl rfl) rfl rfl hq_212 rfl (fun q2 => ?_)
  refine q_s (pc' := 18) (ls' := [vR 137, vI a1, vI a2, vI (q1 137 25), vI 0]) (st' := [vI 35, vI q2.1]) (g' := q2.2) k220_16 rfl rfl ?_
  refine q_ic (P := q2.1 ≠ 35) (t := 30) (pc' := 21) k220_18 Iff.rfl rfl rfl (fun h3 => ?_) (fun h3 => ?_)
  · refine q_s (pc' := 31) (ls' := [vR 137, vI a1, vI a2, vI (q1 137 25), vI 0]) (st' := [vR 137]) (g' := q2.2) k220_30 rfl rfl ?_
    refine q_s (pc' := 32) (ls' := [vR 137, vI a1, vI a2, vI (q1 137 25), vI 0]) (st' := [vI 0, vR 137]) (g' := q2.2) k220_31 rfl rfl ?_
    refine q_s (pc' := 35) (ls' := [vR 137, vI a1, vI a2, vI (q1 137 25), vI 0]) (st' := [vI 999, vI 0, vR 137]) (g' := q2.2) k220_32 rfl rfl ?_
    refine q_callI (ls0 := [vR 137, vI 0, vI 999, vU, vU, vU]) (rest := []) (pc' := 38) rfl k220_35 rfl (hy4 rfl rfl rfl rfl) rfl rfl hq_216 rfl (fun q4 => ?_)
    refine q_if (P := q4.1 = 0) (t := 47) (pc' := 41) k220_38 Iff.rfl rfl rfl (fun h5 => ?_) (fun h5 => ?_)
    · refine q_s (pc' := 49) (ls' := [vR 137, vI a1, vI a2, vI (q1 137 25), vI 0]) (st' := [vI 0]) (g' := q4.2) k220_47 rfl rfl ?_
      refine q_s (pc' := 63) (ls' := [vR 137, vI a1, vI a2, vI (q1 137 25), vI 0]) (st' := []) (g' := q4.2) k220_49 rfl rfl ?_
      refine q_s (pc' := 64) (ls' := [vR 137, vI a1, vI a2, vI (q1 137 25), vI 0]) (st' := [vR 137]) (g' := q4.2) k220_63 rfl rfl ?_
      refine q_s (pc' := 65) (ls' := [vR 137, vI a1, vI a2, vI (q1 137 25), vI 0]) (st' := [vI (q1 137 25), vR 137]) (g' := q4.2) k220_64 rfl rfl ?_
      refine q_putI (w := 25) (pc' := 68) k220_65 rfl rfl rfl rfl ?_
      refine q_s (pc' := 69) (ls' := [vR 137, vI a1, vI a2, vI (q1 137 25), vI 0]) (st' := [vI 0]) (g' := up q4.2 137 25 (q1 137 25)) k220_68 rfl rfl ?_
      exact q_e k220_69 rfl rfl rfl
    · refine q_s (pc' := 42) (ls' := [vR 137, vI a1, vI a2, vI (q1 137 25), vI 0]) (st' := [vR 137]) (g' := q4.2) k220_41 rfl rfl ?_
      refine q_getI (w := 26) (pc' := 45) k220_42 rfl rfl rfl rfl ?_
      refine q_s (pc' := 47) (ls' := [vR 137, vI a1, vI a2, vI (q1 137 25), vI (q4.2 137 26)]) (st' := []) (g' := q4.2) k220_45 rfl rfl ?_
      refine q_s (pc' := 49) (ls' := [vR 137, vI a1, vI a2, vI (q1 137 25), vI (q4.2 137 26)]) (st' := [vI (q4.2 137 26)]) (g' := q4.2) k220_47 rfl rfl ?_
      refine q_if (P := q4.2 137 26 = 0) (t := 63) (pc' := 52) k220_49 Iff.rfl rfl rfl (fun h6 => ?_) (fun h6 => ?_)
      · refine q_s (pc' := 64) (ls' := [vR 137, vI a1, vI a2, vI (q1 137 25), vI (q4.2 137 26)]) (st' := [vR 137]) (g' := q4.2) k220_63 rfl rfl ?_
        refine q_s (pc' := 65) (ls' := [vR 137, vI a1, vI a2, vI (q1 137 25), vI (q4.2 137 26)]) (st' := [vI (q1 137 25), vR 137]) (g' := q4.2) k220_64 rfl rfl ?_
        refine q_putI (w := 25) (pc' := 68) k220_65 rfl rfl rfl rfl ?_
        refine q_s (pc' := 69) (ls' := [vR 137, vI a1, vI a2, vI (q1 137 25), vI (q4.2 137 26)]) (st' := [vI 0]) (g' := up q4.2 137 25 (q1 137 25)) k220_68 rfl rfl ?_
        exact q_e k220_69 rfl rfl rfl
      · refine q_s (pc' := 53) (ls' := [vR 137, vI a1, vI a2, vI (q1 137 25), vI (q4.2 137 26)]) (st' := [vR 137]) (g' := q4.2) k220_52 rfl rfl ?_
        refine q_s (pc' := 54) (ls' := [vR 137, vI a1, vI a2, vI (q1 137 25), vI (q4.2 137 26)]) (st' := [vI a1, vR 137]) (g' := q4.2) k220_53 rfl rfl ?_
        refine q_s (pc' := 55) (ls' := [vR 137, vI a1, vI a2, vI (q1 137 25), vI (q4.2 137 26)]) (st' := [vI a2, vI a1, vR 137]) (g' := q4.2) k220_54 rfl rfl ?_
        refine q_s (pc' := 57) (ls' := [vR 137, vI a1, vI a2, vI (q1 137 25), vI (q4.2 137 26)]) (st' := [vI (q4.2 137 26), vI a2, vI a1, vR 137]) (g' := q4.2) k220_55 rfl rfl ?_
        refine q_callI (ls0 := [vR 137, vI a1, vI a2, vI (q4.2 137 26)]) (rest := []) (pc' := 60) rfl k220_57 rfl (hy4 rfl rfl rfl rfl) rfl rfl hq_158 rfl (fun q7 => ?_)
        refine q_if (P := q7.1 ≠ 0) (t := 70) (pc' := 63) k220_60 Iff.rfl rfl rfl (fun h8 => ?_) (fun h8 => ?_)
        · refine q_s (pc' := 71) (ls' := [vR 137, vI a1, vI a2, vI (q1 137 25), vI (q4.2 137 26)]) (st' := [vR 137]) (g' := q7.2) k220_70 rfl rfl ?_
          refine q_getF (r := 144) (pc' := 74) k220_71 rfl rfl rfl rfl ?_
          refine q_s (pc' := 76) (ls' := [vR 137, vI a1, vI a2, vI (q1 137 25), vI (q4.2 137 26)]) (st' := [vI 6, vR 144]) (g' := q7.2) k220_74 rfl rfl ?_
          refine q_s (pc' := 77) (ls' := [vR 137, vI a1, vI a2, vI (q1 137 25), vI (q4.2 137 26)]) (st' := [vI a1, vI 6, vR 144]) (g' := q7.2) k220_76 rfl rfl ?_
          refine q_s (pc' := 78) (ls' := [vR 137, vI a1, vI a2, vI (q1 137 25), vI (q4.2 137 26)]) (st' := [vI (iw (6 * a1)), vR 144]) (g' := q7.2) k220_77 rfl rfl ?_
          refine q_s (pc' := 79) (ls' := [vR 137, vI a1, vI a2, vI (q1 137 25), vI (q4.2 137 26)]) (st' := [vI a2, vI (iw (6 * a1)), vR 144]) (g' := q7.2) k220_78 rfl rfl ?_
          refine q_s (pc' := 80) (ls' := [vR 137, vI a1, vI a2, vI (q1 137 25), vI (q4.2 137 26)]) (st' := [vI (iw ((iw (6 * a1)) + a2)), vR 144]) (g' := q7.2) k220_79 rfl rfl ?_
          refine q_s (pc' := 82) (ls' := [vR 137, vI a1, vI a2, vI (q1 137 25), vI (q4.2 137 26)]) (st' := [vI (q4.2 137 26), vI (iw ((iw (6 * a1)) + a2)), vR 144]) (g' := q7.2) k220_80 rfl rfl ?_
          refine q_iast (n := 96) (pc' := 83) rfl k220_82 rfl (by decide) rfl (fun h9 => ?_)
          refine q_s (pc' := 84) (ls' := [vR 137, vI a1, vI a2, vI (q1 137 25), vI (q4.2 137 26)]) (st' := [vI 1]) (g' := up q7.2 144 (iw ((iw (6 * a1)) + a2)) (q4.2 137 26)) k220_83 rfl rfl ?_
          exact q_e k220_84 rfl rfl rfl
        · refine q_s (pc' := 64) (ls' := [vR 137, vI a1, vI a2, vI (q1 137 25), vI (q4.2 137 26)]) (st' := [vR 137]) (g' := q7.2) k220_63 rfl rfl ?_
          refine q_s (pc' := 65) (ls' := [vR 137, vI a1, vI a2, vI (q1 137 25), vI (q4.2 137 26)]) (st' := [vI (q1 137 25), vR 137]) (g' := q7.2) k220_64 rfl rfl ?_
          refine q_putI (w := 25) (pc' := 68) k220_65 rfl rfl rfl rfl ?_
          refine q_s (pc' := 69) (ls' := [vR 137, vI a1, vI a2, vI (q1 137 25), vI (q4.2 137 26)]) (st' := [vI 0]) (g' := up q7.2 137 25 (q1 137 25)) k220_68 rfl rfl ?_
          exact q_e k220_69 rfl rfl rfl
  · refine q_s (pc' := 22) (ls' := [vR 137, vI a1, vI a2, vI (q1 137 25), vI 0]) (st' := [vR 137]) (g' := q2.2) k220_21 rfl rfl ?_
    refine q_callI (ls0 := [vR 137, vU, vU, vU]) (rest := []) (pc' := 25) rfl k220_22 rfl (hy4 rfl rfl rfl rfl) rfl rfl hq_219 rfl (fun q10 => ?_)
    refine q_s (pc' := 27) (ls' := [vR 137, vI a1, vI a2, vI (q1 137 25), vI q10.1]) (st' := []) (g' := q10.2) k220_25 rfl rfl ?_
    refine q_s (pc' := 47) (ls' := [vR 137, vI a1, vI a2, vI (q1 137 25), vI q10.1]) (st' := []) (g' := q10.2) k220_27 rfl rfl ?_
    refine q_s (pc' := 49) (ls' := [vR 137, vI a1, vI a2, vI (q1 137 25), vI q10.1]) (st' := [vI q10.1]) (g' := q10.2) k220_47 rfl rfl ?_
    refine q_if (P := q10.1 = 0) (t := 63) (pc' := 52) k220_49 Iff.rfl rfl rfl (fun h11 => ?_) (fun h11 => ?_)
    · refine q_s (pc' := 64) (ls' := [vR 137, vI a1, vI a2, vI (q1 137 25), vI q10.1]) (st' := [vR 137]) (g' := q10.2) k220_63 rfl rfl ?_
      refine q_s (pc' := 65) (ls' := [vR 137, vI a1, vI a2, vI (q1 137 25), vI q10.1]) (st' := [vI (q1 137 25), vR 137]) (g' := q10.2) k220_64 rfl rfl ?_
      refine q_putI (w := 25) (pc' := 68) k220_65 rfl rfl rfl rfl ?_
      refine q_s (pc' := 69) (ls' := [vR 137, vI a1, vI a2, vI (q1 137 25), vI q10.1]) (st' := [vI 0]) (g' := up q10.2 137 25 (q1 137 25)) k220_68 rfl rfl ?_
      exact q_e k220_69 rfl rfl rfl
    · refine q_s (pc' := 53) (ls' := [vR 137, vI a1, vI a2, vI (q1 137 25), vI q10.1]) (st' := [vR 137]) (g' := q10.2) k220_52 rfl rfl ?_
      refine q_s (pc' := 54) (ls' := [vR 137, vI a1, vI a2, vI (q1 137 25), vI q10.1]) (st' := [vI a1, vR 137]) (g' := q10.2) k220_53 rfl rfl ?_
      refine q_s (pc' := 55) (ls' := [vR 137, vI a1, vI a2, vI (q1 137 25), vI q10.1]) (st' := [vI a2, vI a1, vR 137]) (g' := q10.2) k220_54 rfl rfl ?_
      refine q_s (pc' := 57) (ls' := [vR 137, vI a1, vI a2, vI (q1 137 25), vI q10.1]) (st' := [vI q10.1, vI a2, vI a1, vR 137]) (g' := q10.2) k220_55 rfl rfl ?_
      refine q_callI (ls0 := [vR 137, vI a1, vI a2, vI q10.1]) (rest := []) (pc' := 60) rfl k220_57 rfl (hy4 rfl rfl rfl rfl) rfl rfl hq_158 rfl (fun q12 => ?_)
      refine q_if (P := q12.1 ≠ 0) (t := 70) (pc' := 63) k220_60 Iff.rfl rfl rfl (fun h13 => ?_) (fun h13 => ?_)
      · refine q_s (pc' := 71) (ls' := [vR 137, vI a1, vI a2, vI (q1 137 25), vI q10.1]) (st' := [vR 137]) (g' := q12.2) k220_70 rfl rfl ?_
        refine q_getF (r := 144) (pc' := 74) k220_71 rfl rfl rfl rfl ?_
        refine q_s (pc' := 76) (ls' := [vR 137, vI a1, vI a2, vI (q1 137 25), vI q10.1]) (st' := [vI 6, vR 144]) (g' := q12.2) k220_74 rfl rfl ?_
        refine q_s (pc' := 77) (ls' := [vR 137, vI a1, vI a2, vI (q1 137 25), vI q10.1]) (st' := [vI a1, vI 6, vR 144]) (g' := q12.2) k220_76 rfl rfl ?_
        refine q_s (pc' := 78) (ls' := [vR 137, vI a1, vI a2, vI (q1 137 25), vI q10.1]) (st' := [vI (iw (6 * a1)), vR 144]) (g' := q12.2) k220_77 rfl rfl ?_
        refine q_s (pc' := 79) (ls' := [vR 137, vI a1, vI a2, vI (q1 137 25), vI q10.1]) (st' := [vI a2, vI (iw (6 * a1)), vR 144]) (g' := q12.2) k220_78 rfl rfl ?_
        refine q_s (pc' := 80) (ls' := [vR 137, vI a1, vI a2, vI (q1 137 25), vI q10.1]) (st' := [vI (iw ((iw (6 * a1)) + a2)), vR 144]) (g' := q12.2) k220_79 rfl rfl ?_
        refine q_s (pc' := 82) (ls' := [vR 137, vI a1, vI a2, vI (q1 137 25), vI q10.1]) (st' := [vI q10.1, vI (iw ((iw (6 * a1)) + a2)), vR 144]) (g' := q12.2) k220_80 rfl rfl ?_
        refine q_iast (n := 96) (pc' := 83) rfl k220_82 rfl (by decide) rfl (fun h14 => ?_)
        refine q_s (pc' := 84) (ls' := [vR 137, vI a1, vI a2, vI (q1 137 25), vI q10.1]) (st' := [vI 1]) (g' := up q12.2 144 (iw ((iw (6 * a1)) + a2)) q10.1) k220_83 rfl rfl ?_
        exact q_e k220_84 rfl rfl rfl
      · refine q_s (pc' := 64) (ls' := [vR 137, vI a1, vI a2, vI (q1 137 25), vI q10.1]) (st' := [vR 137]) (g' := q12.2) k220_63 rfl rfl ?_
        refine q_s (pc' := 65) (ls' := [vR 137, vI a1, vI a2, vI (q1 137 25), vI q10.1]) (st' := [vI (q1 137 25), vR 137]) (g' := q12.2) k220_64 rfl rfl ?_
        refine q_putI (w := 25) (pc' := 68) k220_65 rfl rfl rfl rfl ?_
        refine q_s (pc' := 69) (ls' := [vR 137, vI a1, vI a2, vI (q1 137 25), vI q10.1]) (st' := [vI 0]) (g' := up q12.2 137 25 (q1 137 25)) k220_68 rfl rfl ?_
        exact q_e k220_69 rfl rfl rfl
set_option maxHeartbeats 4000000 in
theorem jM_readsEdge_eq (L : Nat) (g : AMem) : jM_readsEdge L g = if g 137 2 ≠ 16 then ((jM_number L 0 (iw (((up g 137 25 (iw ((g 137 25) + 1))) 137 1) - 1)) (up g 137 25 (iw ((g 137 25) + 1)))).bind (fun q2 => if q2.1 ≠ 0 then ((jM_number L 0 (iw ((q2.2 137 1) - 1)) q2.2).bind (fun q4 => if q4.1 ≠ 0 then ((jM_number L 0 99 q4.2).bind (fun q6 => if q6.1 ≠ 0 then ((jM_newEdge L (q2.2 137 26) (q4.2 137 26) (q6.2 137 26) q6.2).bind (fun q8 => (jM_skip L q8.2).bind (fun q9 => (jM_here L q9).bind (fun q10 => if q10.1 = 58 then ((jM_manyOf L q8.1 q10.2).bind (fun q12 => if q12.1 ≠ 0 then (jM_readsEdge_127 L (q2.2 137 26) (q4.2 137 26) q8.1 0 (up q12.2 137 25 (iw ((q12.2 137 25) + 1)))) else (some (0, q12.2)))) else ((jM_ends L q10.2).bind (fun q14 => if q14.1 = 0 ∨ q14.1 = 1 then some (q14.1, q14.2) else none)))))) else (some (0, q6.2)))) else (some (0, q4.2)))) else (some (0, q2.2)))) else (some (0, g)) := by
  unfold jM_readsEdge
  refine q_s (pc' := 1) (ls' := [vR 137, vU, vU, vU, vU]) (st' := [vR 137]) (g' := g) k221_0 rfl rfl ?_
  refine q_getI (w := 2) (pc' := 4) k221_1 rfl rfl rfl rfl ?_
  refine q_s (pc' := 6) (ls' := [vR 137, vU, vU, vU, vU]) (st' := [vI 16, vI (g 137 2)]) (g' := g) k221_4 rfl rfl ?_
  refine q_ic (P := g 137 2 ≠ 16) (t := 11) (pc' := 9) k221_6 Iff.rfl rfl rfl (fun h1 => ?_) (fun h1 => ?_)
  · refine q_s (pc' := 12) (ls' := [vR 137, vU, vU, vU, vU]) (st' := [vR 137]) (g' := g) k221_11 rfl rfl ?_
    refine q_s (pc' := 13) (ls' := [vR 137, vU, vU, vU, vU]) (st' := [vR 137, vR 137]) (g' := g) k221_12 rfl rfl ?_
    refine q_getI (w := 25) (pc' := 16) k221_13 rfl rfl rfl rfl ?_
    refine q_s (pc' := 17) (ls' := [vR 137, vU, vU, vU, vU]) (st' := [vI 1, vI (g 137 25), vR 137]) (g' := g) k221_16 rfl rfl ?_
    refine q_s (pc' := 18) (ls' := [vR 137, vU, vU, vU, vU]) (st' := [vI (iw ((g 137 25) + 1)), vR 137]) (g' := g) k221_17 rfl rfl ?_
    refine q_putI (w := 25) (pc' := 21) k221_18 rfl rfl rfl rfl ?_
    refine q_s (pc' := 22) (ls' := [vR 137, vU, vU, vU, vU]) (st' := [vR 137]) (g' := up g 137 25 (iw ((g 137 25) + 1))) k221_21 rfl rfl ?_
    refine q_s (pc' := 23) (ls' := [vR 137, vU, vU, vU, vU]) (st' := [vI 0, vR 137]) (g' := up g 137 25 (iw ((g 137 25) + 1))) k221_22 rfl rfl ?_
    refine q_s (pc' := 24) (ls' := [vR 137, vU, vU, vU, vU]) (st' := [vR 137, vI 0, vR 137]) (g' := up g 137 25 (iw ((g 137 25) + 1))) k221_23 rfl rfl ?_
    refine q_getI (w := 1) (pc' := 27) k221_24 rfl rfl rfl rfl ?_
    refine q_s (pc' := 28) (ls' := [vR 137, vU, vU, vU, vU]) (st' := [vI 1, vI ((up g 137 25 (iw ((g 137 25) + 1))) 137 1), vI 0, vR 137]) (g' := up g 137 25 (iw ((g 137 25) + 1))) k221_27 rfl rfl ?_
    refine q_s (pc' := 29) (ls' := [vR 137, vU, vU, vU, vU]) (st' := [vI (iw (((up g 137 25 (iw ((g 137 25) + 1))) 137 1) - 1)), vI 0, vR 137]) (g' := up g 137 25 (iw ((g 137 25) + 1))) k221_28 rfl rfl ?_
    refine q_callI (ls0 := [vR 137, vI 0, vI (iw (((up g 137 25 (iw ((g 137 25) + 1))) 137 1) - 1)), vU, vU, vU]) (rest := []) (pc' := 32) rfl k221_29 rfl (hy4 rfl rfl rfl rfl) rfl rfl hq_216 rfl (fun q2 => ?_)
    refine q_if (P := q2.1 ≠ 0) (t := 37) (pc' := 35) k221_32 Iff.rfl rfl rfl (fun h3 => ?_) (fun h3 => ?_)
    · refine q_s (pc' := 38) (ls' := [vR 137, vU, vU, vU, vU]) (st' := [vR 137]) (g' := q2.2) k221_37 rfl rfl ?_
      refine q_getI (w := 26) (pc' := 41) k221_38 rfl rfl rfl rfl ?_
      refine q_s (pc' := 42) (ls' := [vR 137, vI (q2.2 137 26), vU, vU, vU]) (st' := []) (g' := q2.2) k221_41 rfl rfl ?_
      refine q_s (pc' := 43) (ls' := [vR 137, vI (q2.2 137 26), vU, vU, vU]) (st' := [vR 137]) (g' := q2.2) k221_42 rfl rfl ?_
      refine q_s (pc' := 44) (ls' := [vR 137, vI (q2.2 137 26), vU, vU, vU]) (st' := [vI 0, vR 137]) (g' := q2.2) k221_43 rfl rfl ?_
      refine q_s (pc' := 45) (ls' := [vR 137, vI (q2.2 137 26), vU, vU, vU]) (st' := [vR 137, vI 0, vR 137]) (g' := q2.2) k221_44 rfl rfl ?_
      refine q_getI (w := 1) (pc' := 48) k221_45 rfl rfl rfl rfl ?_
      refine q_s (pc' := 49) (ls' := [vR 137, vI (q2.2 137 26), vU, vU, vU]) (st' := [vI 1, vI (q2.2 137 1), vI 0, vR 137]) (g' := q2.2) k221_48 rfl rfl ?_
      refine q_s (pc' := 50) (ls' := [vR 137, vI (q2.2 137 26), vU, vU, vU]) (st' := [vI (iw ((q2.2 137 1) - 1)), vI 0, vR 137]) (g' := q2.2) k221_49 rfl rfl ?_
      refine q_callI (ls0 := [vR 137, vI 0, vI (iw ((q2.2 137 1) - 1)), vU, vU, vU]) (rest := []) (pc' := 53) rfl k221_50 rfl (hy4 rfl rfl rfl rfl) rfl rfl hq_216 rfl (fun q4 => ?_)
      refine q_if (P := q4.1 ≠ 0) (t := 58) (pc' := 56) k221_53 Iff.rfl rfl rfl (fun h5 => ?_) (fun h5 => ?_)
      · refine q_s (pc' := 59) (ls' := [vR 137, vI (q2.2 137 26), vU, vU, vU]) (st' := [vR 137]) (g' := q4.2) k221_58 rfl rfl ?_
        refine q_getI (w := 26) (pc' := 62) k221_59 rfl rfl rfl rfl ?_
        refine q_s (pc' := 63) (ls' := [vR 137, vI (q2.2 137 26), vI (q4.2 137 26), vU, vU]) (st' := []) (g' := q4.2) k221_62 rfl rfl ?_
        refine q_s (pc' := 64) (ls' := [vR 137, vI (q2.2 137 26), vI (q4.2 137 26), vU, vU]) (st' := [vR 137]) (g' := q4.2) k221_63 rfl rfl ?_
        refine q_s (pc' := 65) (ls' := [vR 137, vI (q2.2 137 26), vI (q4.2 137 26), vU, vU]) (st' := [vI 0, vR 137]) (g' := q4.2) k221_64 rfl rfl ?_
        refine q_s (pc' := 67) (ls' := [vR 137, vI (q2.2 137 26), vI (q4.2 137 26), vU, vU]) (st' := [vI 99, vI 0, vR 137]) (g' := q4.2) k221_65 rfl rfl ?_
        refine q_callI (ls0 := [vR 137, vI 0, vI 99, vU, vU, vU]) (rest := []) (pc' := 70) rfl k221_67 rfl (hy4 rfl rfl rfl rfl) rfl rfl hq_216 rfl (fun q6 => ?_)
        refine q_if (P := q6.1 ≠ 0) (t := 75) (pc' := 73) k221_70 Iff.rfl rfl rfl (fun h7 => ?_) (fun h7 => ?_)
        · refine q_s (pc' := 76) (ls' := [vR 137, vI (q2.2 137 26), vI (q4.2 137 26), vU, vU]) (st' := [vR 137]) (g' := q6.2) k221_75 rfl rfl ?_
          refine q_s (pc' := 77) (ls' := [vR 137, vI (q2.2 137 26), vI (q4.2 137 26), vU, vU]) (st' := [vI (q2.2 137 26), vR 137]) (g' := q6.2) k221_76 rfl rfl ?_
          refine q_s (pc' := 78) (ls' := [vR 137, vI (q2.2 137 26), vI (q4.2 137 26), vU, vU]) (st' := [vI (q4.2 137 26), vI (q2.2 137 26), vR 137]) (g' := q6.2) k221_77 rfl rfl ?_
          refine q_s (pc' := 79) (ls' := [vR 137, vI (q2.2 137 26), vI (q4.2 137 26), vU, vU]) (st' := [vR 137, vI (q4.2 137 26), vI (q2.2 137 26), vR 137]) (g' := q6.2) k221_78 rfl rfl ?_
          refine q_getI (w := 26) (pc' := 82) k221_79 rfl rfl rfl rfl ?_
          refine q_callI (ls0 := [vR 137, vI (q2.2 137 26), vI (q4.2 137 26), vI (q6.2 137 26), vU, vU]) (rest := []) (pc' := 85) rfl k221_82 rfl (hy4 rfl rfl rfl rfl) rfl rfl hq_156 rfl (fun q8 => ?_)
          refine q_s (pc' := 86) (ls' := [vR 137, vI (q2.2 137 26), vI (q4.2 137 26), vI q8.1, vU]) (st' := []) (g' := q8.2) k221_85 rfl rfl ?_
          refine q_s (pc' := 87) (ls' := [vR 137, vI (q2.2 137 26), vI (q4.2 137 26), vI q8.1, vU]) (st' := [vR 137]) (g' := q8.2) k221_86 rfl rfl ?_
          refine q_callV (ls0 := [vR 137]) (rest := []) (pc' := 90) rfl k221_87 rfl (hy4 rfl rfl rfl rfl) rfl rfl hq_213 rfl (fun q9 => ?_)
          refine q_s (pc' := 91) (ls' := [vR 137, vI (q2.2 137 26), vI (q4.2 137 26), vI q8.1, vU]) (st' := [vR 137]) (g' := q9) k221_90 rfl rfl ?_
          refine q_callI (ls0 := [vR 137]) (rest := []) (pc' := 94) rfl k221_91 rfl (hy4 rfl rfl rfl rfl) rfl rfl hq_212 rfl (fun q10 => ?_)
          refine q_s (pc' := 96) (ls' := [vR 137, vI (q2.2 137 26), vI (q4.2 137 26), vI q8.1, vU]) (st' := [vI 58, vI q10.1]) (g' := q10.2) k221_94 rfl rfl ?_
          refine q_ic (P := q10.1 = 58) (t := 104) (pc' := 99) k221_96 Iff.rfl rfl rfl (fun h11 => ?_) (fun h11 => ?_)
          · refine q_s (pc' := 105) (ls' := [vR 137, vI (q2.2 137 26), vI (q4.2 137 26), vI q8.1, vU]) (st' := [vR 137]) (g' := q10.2) k221_104 rfl rfl ?_
            refine q_s (pc' := 106) (ls' := [vR 137, vI (q2.2 137 26), vI (q4.2 137 26), vI q8.1, vU]) (st' := [vI q8.1, vR 137]) (g' := q10.2) k221_105 rfl rfl ?_
            refine q_callI (ls0 := [vR 137, vI q8.1]) (rest := []) (pc' := 109) rfl k221_106 rfl (hy4 rfl rfl rfl rfl) rfl rfl hq_148 rfl (fun q12 => ?_)
            refine q_if (P := q12.1 ≠ 0) (t := 114) (pc' := 112) k221_109 Iff.rfl rfl rfl (fun h13 => ?_) (fun h13 => ?_)
            · refine q_s (pc' := 115) (ls' := [vR 137, vI (q2.2 137 26), vI (q4.2 137 26), vI q8.1, vU]) (st' := [vR 137]) (g' := q12.2) k221_114 rfl rfl ?_
              refine q_s (pc' := 116) (ls' := [vR 137, vI (q2.2 137 26), vI (q4.2 137 26), vI q8.1, vU]) (st' := [vR 137, vR 137]) (g' := q12.2) k221_115 rfl rfl ?_
              refine q_getI (w := 25) (pc' := 119) k221_116 rfl rfl rfl rfl ?_
              refine q_s (pc' := 120) (ls' := [vR 137, vI (q2.2 137 26), vI (q4.2 137 26), vI q8.1, vU]) (st' := [vI 1, vI (q12.2 137 25), vR 137]) (g' := q12.2) k221_119 rfl rfl ?_
              refine q_s (pc' := 121) (ls' := [vR 137, vI (q2.2 137 26), vI (q4.2 137 26), vI q8.1, vU]) (st' := [vI (iw ((q12.2 137 25) + 1)), vR 137]) (g' := q12.2) k221_120 rfl rfl ?_
              refine q_putI (w := 25) (pc' := 124) k221_121 rfl rfl rfl rfl ?_
              refine q_s (pc' := 125) (ls' := [vR 137, vI (q2.2 137 26), vI (q4.2 137 26), vI q8.1, vU]) (st' := [vI 0]) (g' := up q12.2 137 25 (iw ((q12.2 137 25) + 1))) k221_124 rfl rfl ?_
              refine q_s (pc' := 127) (ls' := [vR 137, vI (q2.2 137 26), vI (q4.2 137 26), vI q8.1, vI 0]) (st' := []) (g' := up q12.2 137 25 (iw ((q12.2 137 25) + 1))) k221_125 rfl rfl ?_
              rfl
            · refine q_s (pc' := 113) (ls' := [vR 137, vI (q2.2 137 26), vI (q4.2 137 26), vI q8.1, vU]) (st' := [vI 0]) (g' := q12.2) k221_112 rfl rfl ?_
              exact q_e k221_113 rfl rfl rfl
          · refine q_s (pc' := 100) (ls' := [vR 137, vI (q2.2 137 26), vI (q4.2 137 26), vI q8.1, vU]) (st' := [vR 137]) (g' := q10.2) k221_99 rfl rfl ?_
            refine q_callI (ls0 := [vR 137]) (rest := []) (pc' := 103) rfl k221_100 rfl (hy4 rfl rfl rfl rfl) rfl rfl hq_217 rfl (fun q14 => ?_)
            exact q_eb rfl k221_103 rfl rfl
        · refine q_s (pc' := 74) (ls' := [vR 137, vI (q2.2 137 26), vI (q4.2 137 26), vU, vU]) (st' := [vI 0]) (g' := q6.2) k221_73 rfl rfl ?_
          exact q_e k221_74 rfl rfl rfl
      · refine q_s (pc' := 57) (ls' := [vR 137, vI (q2.2 137 26), vU, vU, vU]) (st' := [vI 0]) (g' := q4.2) k221_56 rfl rfl ?_
        exact q_e k221_57 rfl rfl rfl
    · refine q_s (pc' := 36) (ls' := [vR 137, vU, vU, vU, vU]) (st' := [vI 0]) (g' := q2.2) k221_35 rfl rfl ?_
      exact q_e k221_36 rfl rfl rfl
  · refine q_s (pc' := 10) (ls' := [vR 137, vU, vU, vU, vU]) (st' := [vI 0]) (g' := g) k221_9 rfl rfl ?_
    exact q_e k221_10 rfl rfl rfl
set_option maxHeartbeats 4000000 in
theorem jM_readsEdge_127_eq (L : Nat) (l1 : Int) (l2 : Int) (l3 : Int) (l4 : Int) (g : AMem) : jM_readsEdge_127 L l1 l2 l3 l4 g = (jM_manyOf L l3 g).bind (fun q15 => if q15.1 ≤ l4 then ((jM_ends L q15.2).bind (fun q17 => if q17.1 = 0 ∨ q17.1 = 1 then some (q17.1, q17.2) else none)) else ((jM_readsGiven L l3 l4 q15.2).bind (fun q18 => if q18.1 ≠ 0 then (jM_readsEdge_127 L l1 l2 l3 (iw (l4 + 1)) q18.2) else (some (0, q18.2))))) := by
  unfold jM_readsEdge_127
  refine q_s (pc' := 129) (ls' := [vR 137, vI l1, vI l2, vI l3, vI l4]) (st' := [vI l4]) (g' := g) k221_127 rfl rfl ?_
  refine q_s (pc' := 130) (ls' := [vR 137, vI l1, vI l2, vI l3, vI l4]) (st' := [vR 137, vI l4]) (g' := g) k221_129 rfl rfl ?_
  refine q_s (pc' := 131) (ls' := [vR 137, vI l1, vI l2, vI l3, vI l4]) (st' := [vI l3, vR 137, vI l4]) (g' := g) k221_130 rfl rfl ?_
  refine q_callI (ls0 := [vR 137, vI l3]) (rest := [vI l4]) (pc' := 134) rfl k221_131 rfl (hy4 rfl rfl rfl rfl) rfl rfl hq_148 rfl (fun q15 => ?_)
  refine q_ic (P := q15.1 ≤ l4) (t := 155) (pc' := 137) k221_134 Iff.rfl rfl rfl (fun h16 => ?_) (fun h16 => ?_)
  · refine q_s (pc' := 156) (ls' := [vR 137, vI l1, vI l2, vI l3, vI l4]) (st' := [vR 137]) (g' := q15.2) k221_155 rfl rfl ?_
    refine q_callI (ls0 := [vR 137]) (rest := []) (pc' := 159) rfl k221_156 rfl (hy4 rfl rfl rfl rfl) rfl rfl hq_217 rfl (fun q17 => ?_)
    exact q_eb rfl k221_159 rfl rfl
  · refine q_s (pc' := 138) (ls' := [vR 137, vI l1, vI l2, vI l3, vI l4]) (st' := [vR 137]) (g' := q15.2) k221_137 rfl rfl ?_
    refine q_s (pc' := 139) (ls' := [vR 137, vI l1, vI l2, vI l3, vI l4]) (st' := [vI l3, vR 137]) (g' := q15.2) k221_138 rfl rfl ?_
    refine q_s (pc' := 141) (ls' := [vR 137, vI l1, vI l2, vI l3, vI l4]) (st' := [vI l4, vI l3, vR 137]) (g' := q15.2) k221_139 rfl rfl ?_
    refine q_callI (ls0 := [vR 137, vI l3, vI l4, vU, vU]) (rest := []) (pc' := 144) rfl k221_141 rfl (hy4 rfl rfl rfl rfl) rfl rfl hq_220 rfl (fun q18 => ?_)
    refine q_if (P := q18.1 ≠ 0) (t := 149) (pc' := 147) k221_144 Iff.rfl rfl rfl (fun h19 => ?_) (fun h19 => ?_)
    · refine q_s (pc' := 152) (ls' := [vR 137, vI l1, vI l2, vI l3, vI (iw (l4 + 1))]) (st' := []) (g' := q18.2) k221_149 rfl rfl ?_
      refine q_s (pc' := 127) (ls' := [vR 137, vI l1, vI l2, vI l3, vI (iw (l4 + 1))]) (st' := []) (g' := q18.2) k221_152 rfl rfl ?_
      rfl
    · refine q_s (pc' := 148) (ls' := [vR 137, vI l1, vI l2, vI l3, vI l4]) (st' := [vI 0]) (g' := q18.2) k221_147 rfl rfl ?_
      exact q_e k221_148 rfl rfl rfl
set_option maxHeartbeats 4000000 in
theorem jM_readsAll_eq (L : Nat) (g : AMem) : jM_readsAll L g = (jM_skip L (up (up (up g 137 25 0) 137 1 0) 137 2 0)).bind (fun q1 => jM_readsAll_21 L 0 q1) := by
  unfold jM_readsAll
  refine q_s (pc' := 1) (ls' := [vR 137, vU]) (st' := [vR 137]) (g' := g) k222_0 rfl rfl ?_
  refine q_s (pc' := 2) (ls' := [vR 137, vU]) (st' := [vI 0, vR 137]) (g' := g) k222_1 rfl rfl ?_
  refine q_putI (w := 25) (pc' := 5) k222_2 rfl rfl rfl rfl ?_
  refine q_s (pc' := 6) (ls' := [vR 137, vU]) (st' := [vR 137]) (g' := up g 137 25 0) k222_5 rfl rfl ?_
  refine q_s (pc' := 7) (ls' := [vR 137, vU]) (st' := [vI 0, vR 137]) (g' := up g 137 25 0) k222_6 rfl rfl ?_
  refine q_putI (w := 1) (pc' := 10) k222_7 rfl rfl rfl rfl ?_
  refine q_s (pc' := 11) (ls' := [vR 137, vU]) (st' := [vR 137]) (g' := up (up g 137 25 0) 137 1 0) k222_10 rfl rfl ?_
  refine q_s (pc' := 12) (ls' := [vR 137, vU]) (st' := [vI 0, vR 137]) (g' := up (up g 137 25 0) 137 1 0) k222_11 rfl rfl ?_
  refine q_putI (w := 2) (pc' := 15) k222_12 rfl rfl rfl rfl ?_
  refine q_s (pc' := 16) (ls' := [vR 137, vU]) (st' := [vI 0]) (g' := up (up (up g 137 25 0) 137 1 0) 137 2 0) k222_15 rfl rfl ?_
  refine q_s (pc' := 17) (ls' := [vR 137, vI 0]) (st' := []) (g' := up (up (up g 137 25 0) 137 1 0) 137 2 0) k222_16 rfl rfl ?_
  refine q_s (pc' := 18) (ls' := [vR 137, vI 0]) (st' := [vR 137]) (g' := up (up (up g 137 25 0) 137 1 0) 137 2 0) k222_17 rfl rfl ?_
  refine q_callV (ls0 := [vR 137]) (rest := []) (pc' := 21) rfl k222_18 rfl (hy4 rfl rfl rfl rfl) rfl rfl hq_213 rfl (fun q1 => ?_)
  rfl
set_option maxHeartbeats 4000000 in
theorem jM_readsAll_21_eq (L : Nat) (l1 : Int) (g : AMem) : jM_readsAll_21 L l1 g = if g 137 24 ≤ g 137 25 then (if l1 ≠ 0 then (some (l1, g)) else (some ((-201), g))) else ((jM_here L g).bind (fun q4 => if q4.1 ≠ 98 then ((jM_here L q4.2).bind (fun q6 => if q6.1 ≠ 101 then (some ((-201), q6.2)) else ((jM_readsEdge L q6.2).bind (fun q8 => if q8.1 ≠ 0 then ((jM_skip L q8.2).bind (fun q10 => jM_readsAll_21 L (iw (l1 + 1)) q10)) else (some ((-201), q8.2)))))) else ((jM_readsBlock L q4.2).bind (fun q11 => if q11.1 ≠ 0 then ((jM_skip L q11.2).bind (fun q13 => jM_readsAll_21 L (iw (l1 + 1)) q13)) else (some ((-201), q11.2)))))) := by
  unfold jM_readsAll_21
  refine q_s (pc' := 22) (ls' := [vR 137, vI l1]) (st' := [vR 137]) (g' := g) k222_21 rfl rfl ?_
  refine q_getI (w := 25) (pc' := 25) k222_22 rfl rfl rfl rfl ?_
  refine q_s (pc' := 26) (ls' := [vR 137, vI l1]) (st' := [vR 137, vI (g 137 25)]) (g' := g) k222_25 rfl rfl ?_
  refine q_getI (w := 24) (pc' := 29) k222_26 rfl rfl rfl rfl ?_
  refine q_ic (P := g 137 24 ≤ g 137 25) (t := 81) (pc' := 32) k222_29 Iff.rfl rfl rfl (fun h2 => ?_) (fun h2 => ?_)
  · refine q_s (pc' := 82) (ls' := [vR 137, vI l1]) (st' := [vI l1]) (g' := g) k222_81 rfl rfl ?_
    refine q_if (P := l1 ≠ 0) (t := 91) (pc' := 85) k222_82 Iff.rfl rfl rfl (fun h3 => ?_) (fun h3 => ?_)
    · refine q_s (pc' := 92) (ls' := [vR 137, vI l1]) (st' := [vI l1]) (g' := g) k222_91 rfl rfl ?_
      exact q_e k222_92 rfl rfl rfl
    · refine q_s (pc' := 88) (ls' := [vR 137, vI l1]) (st' := [vI (-201)]) (g' := g) k222_85 rfl rfl ?_
      refine q_s (pc' := 92) (ls' := [vR 137, vI l1]) (st' := [vI (-201)]) (g' := g) k222_88 rfl rfl ?_
      exact q_e k222_92 rfl rfl rfl
  · refine q_s (pc' := 33) (ls' := [vR 137, vI l1]) (st' := [vR 137]) (g' := g) k222_32 rfl rfl ?_
    refine q_callI (ls0 := [vR 137]) (rest := []) (pc' := 36) rfl k222_33 rfl (hy4 rfl rfl rfl rfl) rfl rfl hq_212 rfl (fun q4 => ?_)
    refine q_s (pc' := 38) (ls' := [vR 137, vI l1]) (st' := [vI 98, vI q4.1]) (g' := q4.2) k222_36 rfl rfl ?_
    refine q_ic (P := q4.1 ≠ 98) (t := 51) (pc' := 41) k222_38 Iff.rfl rfl rfl (fun h5 => ?_) (fun h5 => ?_)
    · refine q_s (pc' := 52) (ls' := [vR 137, vI l1]) (st' := [vR 137]) (g' := q4.2) k222_51 rfl rfl ?_
      refine q_callI (ls0 := [vR 137]) (rest := []) (pc' := 55) rfl k222_52 rfl (hy4 rfl rfl rfl rfl) rfl rfl hq_212 rfl (fun q6 => ?_)
      refine q_s (pc' := 57) (ls' := [vR 137, vI l1]) (st' := [vI 101, vI q6.1]) (g' := q6.2) k222_55 rfl rfl ?_
      refine q_ic (P := q6.1 ≠ 101) (t := 67) (pc' := 60) k222_57 Iff.rfl rfl rfl (fun h7 => ?_) (fun h7 => ?_)
      · refine q_s (pc' := 70) (ls' := [vR 137, vI l1]) (st' := [vI (-201)]) (g' := q6.2) k222_67 rfl rfl ?_
        exact q_e k222_70 rfl rfl rfl
      · refine q_s (pc' := 61) (ls' := [vR 137, vI l1]) (st' := [vR 137]) (g' := q6.2) k222_60 rfl rfl ?_
        refine q_callI (ls0 := [vR 137, vU, vU, vU, vU]) (rest := []) (pc' := 64) rfl k222_61 rfl (hy4 rfl rfl rfl rfl) rfl rfl hq_221 rfl (fun q8 => ?_)
        refine q_if (P := q8.1 ≠ 0) (t := 71) (pc' := 67) k222_64 Iff.rfl rfl rfl (fun h9 => ?_) (fun h9 => ?_)
        · refine q_s (pc' := 74) (ls' := [vR 137, vI (iw (l1 + 1))]) (st' := []) (g' := q8.2) k222_71 rfl rfl ?_
          refine q_s (pc' := 75) (ls' := [vR 137, vI (iw (l1 + 1))]) (st' := [vR 137]) (g' := q8.2) k222_74 rfl rfl ?_
          refine q_callV (ls0 := [vR 137]) (rest := []) (pc' := 78) rfl k222_75 rfl (hy4 rfl rfl rfl rfl) rfl rfl hq_213 rfl (fun q10 => ?_)
          refine q_s (pc' := 21) (ls' := [vR 137, vI (iw (l1 + 1))]) (st' := []) (g' := q10) k222_78 rfl rfl ?_
          rfl
        · refine q_s (pc' := 70) (ls' := [vR 137, vI l1]) (st' := [vI (-201)]) (g' := q8.2) k222_67 rfl rfl ?_
          exact q_e k222_70 rfl rfl rfl
    · refine q_s (pc' := 42) (ls' := [vR 137, vI l1]) (st' := [vR 137]) (g' := q4.2) k222_41 rfl rfl ?_
      refine q_callI (ls0 := [vR 137, vU, vU]) (rest := []) (pc' := 45) rfl k222_42 rfl (hy4 rfl rfl rfl rfl) rfl rfl hq_218 rfl (fun q11 => ?_)
      refine q_if (P := q11.1 ≠ 0) (t := 71) (pc' := 48) k222_45 Iff.rfl rfl rfl (fun h12 => ?_) (fun h12 => ?_)
      · refine q_s (pc' := 74) (ls' := [vR 137, vI (iw (l1 + 1))]) (st' := []) (g' := q11.2) k222_71 rfl rfl ?_
        refine q_s (pc' := 75) (ls' := [vR 137, vI (iw (l1 + 1))]) (st' := [vR 137]) (g' := q11.2) k222_74 rfl rfl ?_
        refine q_callV (ls0 := [vR 137]) (rest := []) (pc' := 78) rfl k222_75 rfl (hy4 rfl rfl rfl rfl) rfl rfl hq_213 rfl (fun q13 => ?_)
        refine q_s (pc' := 21) (ls' := [vR 137, vI (iw (l1 + 1))]) (st' := []) (g' := q13) k222_78 rfl rfl ?_
        rfl
      · refine q_s (pc' := 67) (ls' := [vR 137, vI l1]) (st' := []) (g' := q11.2) k222_48 rfl rfl ?_
        refine q_s (pc' := 70) (ls' := [vR 137, vI l1]) (st' := [vI (-201)]) (g' := q11.2) k222_67 rfl rfl ?_
        exact q_e k222_70 rfl rfl rfl
set_option maxHeartbeats 4000000 in
theorem jM_lays_eq (L : Nat) (g : AMem) : jM_lays L g = if 0 ≤ (0 : Int) ∧ (0 : Int) < 216 then (if 0 ≤ (1 : Int) ∧ (1 : Int) < 216 then (jM_lays_22 L 0 (up (up g 157 0 (g 137 1)) 157 1 ((up g 157 0 (g 137 1)) 137 2))) else none) else none := by
  unfold jM_lays
  refine q_s (pc' := 1) (ls' := [vR 137, vU]) (st' := [vR 137]) (g' := g) k223_0 rfl rfl ?_
  refine q_getF (r := 157) (pc' := 4) k223_1 rfl rfl rfl rfl ?_
  refine q_s (pc' := 5) (ls' := [vR 137, vU]) (st' := [vI 0, vR 157]) (g' := g) k223_4 rfl rfl ?_
  refine q_s (pc' := 6) (ls' := [vR 137, vU]) (st' := [vR 137, vI 0, vR 157]) (g' := g) k223_5 rfl rfl ?_
  refine q_getI (w := 1) (pc' := 9) k223_6 rfl rfl rfl rfl ?_
  refine q_iast (n := 216) (pc' := 10) rfl k223_9 rfl (by decide) rfl (fun h1 => ?_)
  refine q_s (pc' := 11) (ls' := [vR 137, vU]) (st' := [vR 137]) (g' := up g 157 0 (g 137 1)) k223_10 rfl rfl ?_
  refine q_getF (r := 157) (pc' := 14) k223_11 rfl rfl rfl rfl ?_
  refine q_s (pc' := 15) (ls' := [vR 137, vU]) (st' := [vI 1, vR 157]) (g' := up g 157 0 (g 137 1)) k223_14 rfl rfl ?_
  refine q_s (pc' := 16) (ls' := [vR 137, vU]) (st' := [vR 137, vI 1, vR 157]) (g' := up g 157 0 (g 137 1)) k223_15 rfl rfl ?_
  refine q_getI (w := 2) (pc' := 19) k223_16 rfl rfl rfl rfl ?_
  refine q_iast (n := 216) (pc' := 20) rfl k223_19 rfl (by decide) rfl (fun h2 => ?_)
  refine q_s (pc' := 21) (ls' := [vR 137, vU]) (st' := [vI 0]) (g' := up (up g 157 0 (g 137 1)) 157 1 ((up g 157 0 (g 137 1)) 137 2)) k223_20 rfl rfl ?_
  refine q_s (pc' := 22) (ls' := [vR 137, vI 0]) (st' := []) (g' := up (up g 157 0 (g 137 1)) 157 1 ((up g 157 0 (g 137 1)) 137 2)) k223_21 rfl rfl ?_
  rfl
set_option maxHeartbeats 4000000 in
theorem jM_lays_22_eq (L : Nat) (l1 : Int) (g : AMem) : jM_lays_22 L l1 g = if 10 ≤ l1 then (jM_lays_50 L 0 g) else (if 0 ≤ l1 ∧ l1 < 10 then (if 0 ≤ iw (2 + l1) ∧ iw (2 + l1) < 216 then (jM_lays_22 L (iw (l1 + 1)) (up g 157 (iw (2 + l1)) (g 139 l1))) else none) else none) := by
  unfold jM_lays_22
  refine q_s (pc' := 23) (ls' := [vR 137, vI l1]) (st' := [vI l1]) (g' := g) k223_22 rfl rfl ?_
  refine q_s (pc' := 25) (ls' := [vR 137, vI l1]) (st' := [vI 10, vI l1]) (g' := g) k223_23 rfl rfl ?_
  refine q_ic (P := 10 ≤ l1) (t := 48) (pc' := 28) k223_25 Iff.rfl rfl rfl (fun h3 => ?_) (fun h3 => ?_)
  · refine q_s (pc' := 49) (ls' := [vR 137, vI l1]) (st' := [vI 0]) (g' := g) k223_48 rfl rfl ?_
    refine q_s (pc' := 50) (ls' := [vR 137, vI 0]) (st' := []) (g' := g) k223_49 rfl rfl ?_
    rfl
  · refine q_s (pc' := 29) (ls' := [vR 137, vI l1]) (st' := [vR 137]) (g' := g) k223_28 rfl rfl ?_
    refine q_getF (r := 157) (pc' := 32) k223_29 rfl rfl rfl rfl ?_
    refine q_s (pc' := 33) (ls' := [vR 137, vI l1]) (st' := [vI 2, vR 157]) (g' := g) k223_32 rfl rfl ?_
    refine q_s (pc' := 34) (ls' := [vR 137, vI l1]) (st' := [vI l1, vI 2, vR 157]) (g' := g) k223_33 rfl rfl ?_
    refine q_s (pc' := 35) (ls' := [vR 137, vI l1]) (st' := [vI (iw (2 + l1)), vR 157]) (g' := g) k223_34 rfl rfl ?_
    refine q_s (pc' := 36) (ls' := [vR 137, vI l1]) (st' := [vR 137, vI (iw (2 + l1)), vR 157]) (g' := g) k223_35 rfl rfl ?_
    refine q_getF (r := 139) (pc' := 39) k223_36 rfl rfl rfl rfl ?_
    refine q_s (pc' := 40) (ls' := [vR 137, vI l1]) (st' := [vI l1, vR 139, vI (iw (2 + l1)), vR 157]) (g' := g) k223_39 rfl rfl ?_
    refine q_iald (n := 10) (pc' := 41) rfl k223_40 rfl rfl (fun h4 => ?_)
    refine q_iast (n := 216) (pc' := 42) rfl k223_41 rfl (by decide) rfl (fun h5 => ?_)
    refine q_s (pc' := 45) (ls' := [vR 137, vI (iw (l1 + 1))]) (st' := []) (g' := up g 157 (iw (2 + l1)) (g 139 l1)) k223_42 rfl rfl ?_
    refine q_s (pc' := 22) (ls' := [vR 137, vI (iw (l1 + 1))]) (st' := []) (g' := up g 157 (iw (2 + l1)) (g 139 l1)) k223_45 rfl rfl ?_
    rfl
set_option maxHeartbeats 4000000 in
theorem jM_lays_50_eq (L : Nat) (l1 : Int) (g : AMem) : jM_lays_50 L l1 g = if 60 ≤ l1 then (jM_lays_79 L 0 g) else (if 0 ≤ l1 ∧ l1 < 60 then (if 0 ≤ iw (12 + l1) ∧ iw (12 + l1) < 216 then (jM_lays_50 L (iw (l1 + 1)) (up g 157 (iw (12 + l1)) (g 140 l1))) else none) else none) := by
  unfold jM_lays_50
  refine q_s (pc' := 51) (ls' := [vR 137, vI l1]) (st' := [vI l1]) (g' := g) k223_50 rfl rfl ?_
  refine q_s (pc' := 53) (ls' := [vR 137, vI l1]) (st' := [vI 60, vI l1]) (g' := g) k223_51 rfl rfl ?_
  refine q_ic (P := 60 ≤ l1) (t := 77) (pc' := 56) k223_53 Iff.rfl rfl rfl (fun h6 => ?_) (fun h6 => ?_)
  · refine q_s (pc' := 78) (ls' := [vR 137, vI l1]) (st' := [vI 0]) (g' := g) k223_77 rfl rfl ?_
    refine q_s (pc' := 79) (ls' := [vR 137, vI 0]) (st' := []) (g' := g) k223_78 rfl rfl ?_
    rfl
  · refine q_s (pc' := 57) (ls' := [vR 137, vI l1]) (st' := [vR 137]) (g' := g) k223_56 rfl rfl ?_
    refine q_getF (r := 157) (pc' := 60) k223_57 rfl rfl rfl rfl ?_
    refine q_s (pc' := 62) (ls' := [vR 137, vI l1]) (st' := [vI 12, vR 157]) (g' := g) k223_60 rfl rfl ?_
    refine q_s (pc' := 63) (ls' := [vR 137, vI l1]) (st' := [vI l1, vI 12, vR 157]) (g' := g) k223_62 rfl rfl ?_
    refine q_s (pc' := 64) (ls' := [vR 137, vI l1]) (st' := [vI (iw (12 + l1)), vR 157]) (g' := g) k223_63 rfl rfl ?_
    refine q_s (pc' := 65) (ls' := [vR 137, vI l1]) (st' := [vR 137, vI (iw (12 + l1)), vR 157]) (g' := g) k223_64 rfl rfl ?_
    refine q_getF (r := 140) (pc' := 68) k223_65 rfl rfl rfl rfl ?_
    refine q_s (pc' := 69) (ls' := [vR 137, vI l1]) (st' := [vI l1, vR 140, vI (iw (12 + l1)), vR 157]) (g' := g) k223_68 rfl rfl ?_
    refine q_iald (n := 60) (pc' := 70) rfl k223_69 rfl rfl (fun h7 => ?_)
    refine q_iast (n := 216) (pc' := 71) rfl k223_70 rfl (by decide) rfl (fun h8 => ?_)
    refine q_s (pc' := 74) (ls' := [vR 137, vI (iw (l1 + 1))]) (st' := []) (g' := up g 157 (iw (12 + l1)) (g 140 l1)) k223_71 rfl rfl ?_
    refine q_s (pc' := 50) (ls' := [vR 137, vI (iw (l1 + 1))]) (st' := []) (g' := up g 157 (iw (12 + l1)) (g 140 l1)) k223_74 rfl rfl ?_
    rfl
set_option maxHeartbeats 4000000 in
theorem jM_lays_79_eq (L : Nat) (l1 : Int) (g : AMem) : jM_lays_79 L l1 g = if 16 ≤ l1 then (jM_lays_138 L 0 g) else (if 0 ≤ l1 ∧ l1 < 16 then (if 0 ≤ iw (72 + l1) ∧ iw (72 + l1) < 216 then (if 0 ≤ l1 ∧ l1 < 16 then (if 0 ≤ iw (88 + l1) ∧ iw (88 + l1) < 216 then (if 0 ≤ l1 ∧ l1 < 16 then (if 0 ≤ iw (104 + l1) ∧ iw (104 + l1) < 216 then (jM_lays_79 L (iw (l1 + 1)) (up (up (up g 157 (iw (72 + l1)) (g 141 l1)) 157 (iw (88 + l1)) ((up g 157 (iw (72 + l1)) (g 141 l1)) 142 l1)) 157 (iw (104 + l1)) ((up (up g 157 (iw (72 + l1)) (g 141 l1)) 157 (iw (88 + l1)) ((up g 157 (iw (72 + l1)) (g 141 l1)) 142 l1)) 143 l1))) else none) else none) else none) else none) else none) else none) := by
  unfold jM_lays_79
  refine q_s (pc' := 80) (ls' := [vR 137, vI l1]) (st' := [vI l1]) (g' := g) k223_79 rfl rfl ?_
  refine q_s (pc' := 82) (ls' := [vR 137, vI l1]) (st' := [vI 16, vI l1]) (g' := g) k223_80 rfl rfl ?_
  refine q_ic (P := 16 ≤ l1) (t := 136) (pc' := 85) k223_82 Iff.rfl rfl rfl (fun h9 => ?_) (fun h9 => ?_)
  · refine q_s (pc' := 137) (ls' := [vR 137, vI l1]) (st' := [vI 0]) (g' := g) k223_136 rfl rfl ?_
    refine q_s (pc' := 138) (ls' := [vR 137, vI 0]) (st' := []) (g' := g) k223_137 rfl rfl ?_
    rfl
  · refine q_s (pc' := 86) (ls' := [vR 137, vI l1]) (st' := [vR 137]) (g' := g) k223_85 rfl rfl ?_
    refine q_getF (r := 157) (pc' := 89) k223_86 rfl rfl rfl rfl ?_
    refine q_s (pc' := 91) (ls' := [vR 137, vI l1]) (st' := [vI 72, vR 157]) (g' := g) k223_89 rfl rfl ?_
    refine q_s (pc' := 92) (ls' := [vR 137, vI l1]) (st' := [vI l1, vI 72, vR 157]) (g' := g) k223_91 rfl rfl ?_
    refine q_s (pc' := 93) (ls' := [vR 137, vI l1]) (st' := [vI (iw (72 + l1)), vR 157]) (g' := g) k223_92 rfl rfl ?_
    refine q_s (pc' := 94) (ls' := [vR 137, vI l1]) (st' := [vR 137, vI (iw (72 + l1)), vR 157]) (g' := g) k223_93 rfl rfl ?_
    refine q_getF (r := 141) (pc' := 97) k223_94 rfl rfl rfl rfl ?_
    refine q_s (pc' := 98) (ls' := [vR 137, vI l1]) (st' := [vI l1, vR 141, vI (iw (72 + l1)), vR 157]) (g' := g) k223_97 rfl rfl ?_
    refine q_iald (n := 16) (pc' := 99) rfl k223_98 rfl rfl (fun h10 => ?_)
    refine q_iast (n := 216) (pc' := 100) rfl k223_99 rfl (by decide) rfl (fun h11 => ?_)
    refine q_s (pc' := 101) (ls' := [vR 137, vI l1]) (st' := [vR 137]) (g' := up g 157 (iw (72 + l1)) (g 141 l1)) k223_100 rfl rfl ?_
    refine q_getF (r := 157) (pc' := 104) k223_101 rfl rfl rfl rfl ?_
    refine q_s (pc' := 106) (ls' := [vR 137, vI l1]) (st' := [vI 88, vR 157]) (g' := up g 157 (iw (72 + l1)) (g 141 l1)) k223_104 rfl rfl ?_
    refine q_s (pc' := 107) (ls' := [vR 137, vI l1]) (st' := [vI l1, vI 88, vR 157]) (g' := up g 157 (iw (72 + l1)) (g 141 l1)) k223_106 rfl rfl ?_
    refine q_s (pc' := 108) (ls' := [vR 137, vI l1]) (st' := [vI (iw (88 + l1)), vR 157]) (g' := up g 157 (iw (72 + l1)) (g 141 l1)) k223_107 rfl rfl ?_
    refine q_s (pc' := 109) (ls' := [vR 137, vI l1]) (st' := [vR 137, vI (iw (88 + l1)), vR 157]) (g' := up g 157 (iw (72 + l1)) (g 141 l1)) k223_108 rfl rfl ?_
    refine q_getF (r := 142) (pc' := 112) k223_109 rfl rfl rfl rfl ?_
    refine q_s (pc' := 113) (ls' := [vR 137, vI l1]) (st' := [vI l1, vR 142, vI (iw (88 + l1)), vR 157]) (g' := up g 157 (iw (72 + l1)) (g 141 l1)) k223_112 rfl rfl ?_
    refine q_iald (n := 16) (pc' := 114) rfl k223_113 rfl rfl (fun h12 => ?_)
    refine q_iast (n := 216) (pc' := 115) rfl k223_114 rfl (by decide) rfl (fun h13 => ?_)
    refine q_s (pc' := 116) (ls' := [vR 137, vI l1]) (st' := [vR 137]) (g' := up (up g 157 (iw (72 + l1)) (g 141 l1)) 157 (iw (88 + l1)) ((up g 157 (iw (72 + l1)) (g 141 l1)) 142 l1)) k223_115 rfl rfl ?_
    refine q_getF (r := 157) (pc' := 119) k223_116 rfl rfl rfl rfl ?_
    refine q_s (pc' := 121) (ls' := [vR 137, vI l1]) (st' := [vI 104, vR 157]) (g' := up (up g 157 (iw (72 + l1)) (g 141 l1)) 157 (iw (88 + l1)) ((up g 157 (iw (72 + l1)) (g 141 l1)) 142 l1)) k223_119 rfl rfl ?_
    refine q_s (pc' := 122) (ls' := [vR 137, vI l1]) (st' := [vI l1, vI 104, vR 157]) (g' := up (up g 157 (iw (72 + l1)) (g 141 l1)) 157 (iw (88 + l1)) ((up g 157 (iw (72 + l1)) (g 141 l1)) 142 l1)) k223_121 rfl rfl ?_
    refine q_s (pc' := 123) (ls' := [vR 137, vI l1]) (st' := [vI (iw (104 + l1)), vR 157]) (g' := up (up g 157 (iw (72 + l1)) (g 141 l1)) 157 (iw (88 + l1)) ((up g 157 (iw (72 + l1)) (g 141 l1)) 142 l1)) k223_122 rfl rfl ?_
    refine q_s (pc' := 124) (ls' := [vR 137, vI l1]) (st' := [vR 137, vI (iw (104 + l1)), vR 157]) (g' := up (up g 157 (iw (72 + l1)) (g 141 l1)) 157 (iw (88 + l1)) ((up g 157 (iw (72 + l1)) (g 141 l1)) 142 l1)) k223_123 rfl rfl ?_
    refine q_getF (r := 143) (pc' := 127) k223_124 rfl rfl rfl rfl ?_
    refine q_s (pc' := 128) (ls' := [vR 137, vI l1]) (st' := [vI l1, vR 143, vI (iw (104 + l1)), vR 157]) (g' := up (up g 157 (iw (72 + l1)) (g 141 l1)) 157 (iw (88 + l1)) ((up g 157 (iw (72 + l1)) (g 141 l1)) 142 l1)) k223_127 rfl rfl ?_
    refine q_iald (n := 16) (pc' := 129) rfl k223_128 rfl rfl (fun h14 => ?_)
    refine q_iast (n := 216) (pc' := 130) rfl k223_129 rfl (by decide) rfl (fun h15 => ?_)
    refine q_s (pc' := 133) (ls' := [vR 137, vI (iw (l1 + 1))]) (st' := []) (g' := up (up (up g 157 (iw (72 + l1)) (g 141 l1)) 157 (iw (88 + l1)) ((up g 157 (iw (72 + l1)) (g 141 l1)) 142 l1)) 157 (iw (104 + l1)) ((up (up g 157 (iw (72 + l1)) (g 141 l1)) 157 (iw (88 + l1)) ((up g 157 (iw (72 + l1)) (g 141 l1)) 142 l1)) 143 l1)) k223_130 rfl rfl ?_
    refine q_s (pc' := 79) (ls' := [vR 137, vI (iw (l1 + 1))]) (st' := []) (g' := up (up (up g 157 (iw (72 + l1)) (g 141 l1)) 157 (iw (88 + l1)) ((up g 157 (iw (72 + l1)) (g 141 l1)) 142 l1)) 157 (iw (104 + l1)) ((up (up g 157 (iw (72 + l1)) (g 141 l1)) 157 (iw (88 + l1)) ((up g 157 (iw (72 + l1)) (g 141 l1)) 142 l1)) 143 l1)) k223_133 rfl rfl ?_
    rfl
set_option maxHeartbeats 4000000 in
theorem jM_lays_138_eq (L : Nat) (l1 : Int) (g : AMem) : jM_lays_138 L l1 g = if 96 ≤ l1 then (some g) else (if 0 ≤ l1 ∧ l1 < 96 then (if 0 ≤ iw (120 + l1) ∧ iw (120 + l1) < 216 then (jM_lays_138 L (iw (l1 + 1)) (up g 157 (iw (120 + l1)) (g 144 l1))) else none) else none) := by
  unfold jM_lays_138
  refine q_s (pc' := 139) (ls' := [vR 137, vI l1]) (st' := [vI l1]) (g' := g) k223_138 rfl rfl ?_
  refine q_s (pc' := 141) (ls' := [vR 137, vI l1]) (st' := [vI 96, vI l1]) (g' := g) k223_139 rfl rfl ?_
  refine q_ic (P := 96 ≤ l1) (t := 165) (pc' := 144) k223_141 Iff.rfl rfl rfl (fun h16 => ?_) (fun h16 => ?_)
  · exact q_e k223_165 rfl rfl rfl
  · refine q_s (pc' := 145) (ls' := [vR 137, vI l1]) (st' := [vR 137]) (g' := g) k223_144 rfl rfl ?_
    refine q_getF (r := 157) (pc' := 148) k223_145 rfl rfl rfl rfl ?_
    refine q_s (pc' := 150) (ls' := [vR 137, vI l1]) (st' := [vI 120, vR 157]) (g' := g) k223_148 rfl rfl ?_
    refine q_s (pc' := 151) (ls' := [vR 137, vI l1]) (st' := [vI l1, vI 120, vR 157]) (g' := g) k223_150 rfl rfl ?_
    refine q_s (pc' := 152) (ls' := [vR 137, vI l1]) (st' := [vI (iw (120 + l1)), vR 157]) (g' := g) k223_151 rfl rfl ?_
    refine q_s (pc' := 153) (ls' := [vR 137, vI l1]) (st' := [vR 137, vI (iw (120 + l1)), vR 157]) (g' := g) k223_152 rfl rfl ?_
    refine q_getF (r := 144) (pc' := 156) k223_153 rfl rfl rfl rfl ?_
    refine q_s (pc' := 157) (ls' := [vR 137, vI l1]) (st' := [vI l1, vR 144, vI (iw (120 + l1)), vR 157]) (g' := g) k223_156 rfl rfl ?_
    refine q_iald (n := 96) (pc' := 158) rfl k223_157 rfl rfl (fun h17 => ?_)
    refine q_iast (n := 216) (pc' := 159) rfl k223_158 rfl (by decide) rfl (fun h18 => ?_)
    refine q_s (pc' := 162) (ls' := [vR 137, vI (iw (l1 + 1))]) (st' := []) (g' := up g 157 (iw (120 + l1)) (g 144 l1)) k223_159 rfl rfl ?_
    refine q_s (pc' := 138) (ls' := [vR 137, vI (iw (l1 + 1))]) (st' := []) (g' := up g 157 (iw (120 + l1)) (g 144 l1)) k223_162 rfl rfl ?_
    rfl
set_option maxHeartbeats 4000000 in
theorem jM_takes_eq (L : Nat) (g : AMem) : jM_takes L g = if 0 ≤ (0 : Int) ∧ (0 : Int) < 216 then (if 0 ≤ (1 : Int) ∧ (1 : Int) < 216 then (jM_takes_22 L 0 (up (up g 137 1 (g 157 0)) 137 2 ((up g 137 1 (g 157 0)) 157 1))) else none) else none := by
  unfold jM_takes
  refine q_s (pc' := 1) (ls' := [vR 137, vU]) (st' := [vR 137]) (g' := g) k224_0 rfl rfl ?_
  refine q_s (pc' := 2) (ls' := [vR 137, vU]) (st' := [vR 137, vR 137]) (g' := g) k224_1 rfl rfl ?_
  refine q_getF (r := 157) (pc' := 5) k224_2 rfl rfl rfl rfl ?_
  refine q_s (pc' := 6) (ls' := [vR 137, vU]) (st' := [vI 0, vR 157, vR 137]) (g' := g) k224_5 rfl rfl ?_
  refine q_iald (n := 216) (pc' := 7) rfl k224_6 rfl rfl (fun h1 => ?_)
  refine q_putI (w := 1) (pc' := 10) k224_7 rfl rfl rfl rfl ?_
  refine q_s (pc' := 11) (ls' := [vR 137, vU]) (st' := [vR 137]) (g' := up g 137 1 (g 157 0)) k224_10 rfl rfl ?_
  refine q_s (pc' := 12) (ls' := [vR 137, vU]) (st' := [vR 137, vR 137]) (g' := up g 137 1 (g 157 0)) k224_11 rfl rfl ?_
  refine q_getF (r := 157) (pc' := 15) k224_12 rfl rfl rfl rfl ?_
  refine q_s (pc' := 16) (ls' := [vR 137, vU]) (st' := [vI 1, vR 157, vR 137]) (g' := up g 137 1 (g 157 0)) k224_15 rfl rfl ?_
  refine q_iald (n := 216) (pc' := 17) rfl k224_16 rfl rfl (fun h2 => ?_)
  refine q_putI (w := 2) (pc' := 20) k224_17 rfl rfl rfl rfl ?_
  refine q_s (pc' := 21) (ls' := [vR 137, vU]) (st' := [vI 0]) (g' := up (up g 137 1 (g 157 0)) 137 2 ((up g 137 1 (g 157 0)) 157 1)) k224_20 rfl rfl ?_
  refine q_s (pc' := 22) (ls' := [vR 137, vI 0]) (st' := []) (g' := up (up g 137 1 (g 157 0)) 137 2 ((up g 137 1 (g 157 0)) 157 1)) k224_21 rfl rfl ?_
  rfl
set_option maxHeartbeats 4000000 in
theorem jM_takes_22_eq (L : Nat) (l1 : Int) (g : AMem) : jM_takes_22 L l1 g = if 10 ≤ l1 then (jM_takes_50 L 0 g) else (if 0 ≤ iw (2 + l1) ∧ iw (2 + l1) < 216 then (if 0 ≤ l1 ∧ l1 < 10 then (jM_takes_22 L (iw (l1 + 1)) (up g 139 l1 (g 157 (iw (2 + l1))))) else none) else none) := by
  unfold jM_takes_22
  refine q_s (pc' := 23) (ls' := [vR 137, vI l1]) (st' := [vI l1]) (g' := g) k224_22 rfl rfl ?_
  refine q_s (pc' := 25) (ls' := [vR 137, vI l1]) (st' := [vI 10, vI l1]) (g' := g) k224_23 rfl rfl ?_
  refine q_ic (P := 10 ≤ l1) (t := 48) (pc' := 28) k224_25 Iff.rfl rfl rfl (fun h3 => ?_) (fun h3 => ?_)
  · refine q_s (pc' := 49) (ls' := [vR 137, vI l1]) (st' := [vI 0]) (g' := g) k224_48 rfl rfl ?_
    refine q_s (pc' := 50) (ls' := [vR 137, vI 0]) (st' := []) (g' := g) k224_49 rfl rfl ?_
    rfl
  · refine q_s (pc' := 29) (ls' := [vR 137, vI l1]) (st' := [vR 137]) (g' := g) k224_28 rfl rfl ?_
    refine q_getF (r := 139) (pc' := 32) k224_29 rfl rfl rfl rfl ?_
    refine q_s (pc' := 33) (ls' := [vR 137, vI l1]) (st' := [vI l1, vR 139]) (g' := g) k224_32 rfl rfl ?_
    refine q_s (pc' := 34) (ls' := [vR 137, vI l1]) (st' := [vR 137, vI l1, vR 139]) (g' := g) k224_33 rfl rfl ?_
    refine q_getF (r := 157) (pc' := 37) k224_34 rfl rfl rfl rfl ?_
    refine q_s (pc' := 38) (ls' := [vR 137, vI l1]) (st' := [vI 2, vR 157, vI l1, vR 139]) (g' := g) k224_37 rfl rfl ?_
    refine q_s (pc' := 39) (ls' := [vR 137, vI l1]) (st' := [vI l1, vI 2, vR 157, vI l1, vR 139]) (g' := g) k224_38 rfl rfl ?_
    refine q_s (pc' := 40) (ls' := [vR 137, vI l1]) (st' := [vI (iw (2 + l1)), vR 157, vI l1, vR 139]) (g' := g) k224_39 rfl rfl ?_
    refine q_iald (n := 216) (pc' := 41) rfl k224_40 rfl rfl (fun h4 => ?_)
    refine q_iast (n := 10) (pc' := 42) rfl k224_41 rfl (by decide) rfl (fun h5 => ?_)
    refine q_s (pc' := 45) (ls' := [vR 137, vI (iw (l1 + 1))]) (st' := []) (g' := up g 139 l1 (g 157 (iw (2 + l1)))) k224_42 rfl rfl ?_
    refine q_s (pc' := 22) (ls' := [vR 137, vI (iw (l1 + 1))]) (st' := []) (g' := up g 139 l1 (g 157 (iw (2 + l1)))) k224_45 rfl rfl ?_
    rfl
set_option maxHeartbeats 4000000 in
theorem jM_takes_50_eq (L : Nat) (l1 : Int) (g : AMem) : jM_takes_50 L l1 g = if 60 ≤ l1 then (jM_takes_79 L 0 g) else (if 0 ≤ iw (12 + l1) ∧ iw (12 + l1) < 216 then (if 0 ≤ l1 ∧ l1 < 60 then (jM_takes_50 L (iw (l1 + 1)) (up g 140 l1 (g 157 (iw (12 + l1))))) else none) else none) := by
  unfold jM_takes_50
  refine q_s (pc' := 51) (ls' := [vR 137, vI l1]) (st' := [vI l1]) (g' := g) k224_50 rfl rfl ?_
  refine q_s (pc' := 53) (ls' := [vR 137, vI l1]) (st' := [vI 60, vI l1]) (g' := g) k224_51 rfl rfl ?_
  refine q_ic (P := 60 ≤ l1) (t := 77) (pc' := 56) k224_53 Iff.rfl rfl rfl (fun h6 => ?_) (fun h6 => ?_)
  · refine q_s (pc' := 78) (ls' := [vR 137, vI l1]) (st' := [vI 0]) (g' := g) k224_77 rfl rfl ?_
    refine q_s (pc' := 79) (ls' := [vR 137, vI 0]) (st' := []) (g' := g) k224_78 rfl rfl ?_
    rfl
  · refine q_s (pc' := 57) (ls' := [vR 137, vI l1]) (st' := [vR 137]) (g' := g) k224_56 rfl rfl ?_
    refine q_getF (r := 140) (pc' := 60) k224_57 rfl rfl rfl rfl ?_
    refine q_s (pc' := 61) (ls' := [vR 137, vI l1]) (st' := [vI l1, vR 140]) (g' := g) k224_60 rfl rfl ?_
    refine q_s (pc' := 62) (ls' := [vR 137, vI l1]) (st' := [vR 137, vI l1, vR 140]) (g' := g) k224_61 rfl rfl ?_
    refine q_getF (r := 157) (pc' := 65) k224_62 rfl rfl rfl rfl ?_
    refine q_s (pc' := 67) (ls' := [vR 137, vI l1]) (st' := [vI 12, vR 157, vI l1, vR 140]) (g' := g) k224_65 rfl rfl ?_
    refine q_s (pc' := 68) (ls' := [vR 137, vI l1]) (st' := [vI l1, vI 12, vR 157, vI l1, vR 140]) (g' := g) k224_67 rfl rfl ?_
    refine q_s (pc' := 69) (ls' := [vR 137, vI l1]) (st' := [vI (iw (12 + l1)), vR 157, vI l1, vR 140]) (g' := g) k224_68 rfl rfl ?_
    refine q_iald (n := 216) (pc' := 70) rfl k224_69 rfl rfl (fun h7 => ?_)
    refine q_iast (n := 60) (pc' := 71) rfl k224_70 rfl (by decide) rfl (fun h8 => ?_)
    refine q_s (pc' := 74) (ls' := [vR 137, vI (iw (l1 + 1))]) (st' := []) (g' := up g 140 l1 (g 157 (iw (12 + l1)))) k224_71 rfl rfl ?_
    refine q_s (pc' := 50) (ls' := [vR 137, vI (iw (l1 + 1))]) (st' := []) (g' := up g 140 l1 (g 157 (iw (12 + l1)))) k224_74 rfl rfl ?_
    rfl
set_option maxHeartbeats 4000000 in
theorem jM_takes_79_eq (L : Nat) (l1 : Int) (g : AMem) : jM_takes_79 L l1 g = if 16 ≤ l1 then (jM_takes_138 L 0 g) else (if 0 ≤ iw (72 + l1) ∧ iw (72 + l1) < 216 then (if 0 ≤ l1 ∧ l1 < 16 then (if 0 ≤ iw (88 + l1) ∧ iw (88 + l1) < 216 then (if 0 ≤ l1 ∧ l1 < 16 then (if 0 ≤ iw (104 + l1) ∧ iw (104 + l1) < 216 then (if 0 ≤ l1 ∧ l1 < 16 then (jM_takes_79 L (iw (l1 + 1)) (up (up (up g 141 l1 (g 157 (iw (72 + l1)))) 142 l1 ((up g 141 l1 (g 157 (iw (72 + l1)))) 157 (iw (88 + l1)))) 143 l1 ((up (up g 141 l1 (g 157 (iw (72 + l1)))) 142 l1 ((up g 141 l1 (g 157 (iw (72 + l1)))) 157 (iw (88 + l1)))) 157 (iw (104 + l1))))) else none) else none) else none) else none) else none) else none) := by
  unfold jM_takes_79
  refine q_s (pc' := 80) (ls' := [vR 137, vI l1]) (st' := [vI l1]) (g' := g) k224_79 rfl rfl ?_
  refine q_s (pc' := 82) (ls' := [vR 137, vI l1]) (st' := [vI 16, vI l1]) (g' := g) k224_80 rfl rfl ?_
  refine q_ic (P := 16 ≤ l1) (t := 136) (pc' := 85) k224_82 Iff.rfl rfl rfl (fun h9 => ?_) (fun h9 => ?_)
  · refine q_s (pc' := 137) (ls' := [vR 137, vI l1]) (st' := [vI 0]) (g' := g) k224_136 rfl rfl ?_
    refine q_s (pc' := 138) (ls' := [vR 137, vI 0]) (st' := []) (g' := g) k224_137 rfl rfl ?_
    rfl
  · refine q_s (pc' := 86) (ls' := [vR 137, vI l1]) (st' := [vR 137]) (g' := g) k224_85 rfl rfl ?_
    refine q_getF (r := 141) (pc' := 89) k224_86 rfl rfl rfl rfl ?_
    refine q_s (pc' := 90) (ls' := [vR 137, vI l1]) (st' := [vI l1, vR 141]) (g' := g) k224_89 rfl rfl ?_
    refine q_s (pc' := 91) (ls' := [vR 137, vI l1]) (st' := [vR 137, vI l1, vR 141]) (g' := g) k224_90 rfl rfl ?_
    refine q_getF (r := 157) (pc' := 94) k224_91 rfl rfl rfl rfl ?_
    refine q_s (pc' := 96) (ls' := [vR 137, vI l1]) (st' := [vI 72, vR 157, vI l1, vR 141]) (g' := g) k224_94 rfl rfl ?_
    refine q_s (pc' := 97) (ls' := [vR 137, vI l1]) (st' := [vI l1, vI 72, vR 157, vI l1, vR 141]) (g' := g) k224_96 rfl rfl ?_
    refine q_s (pc' := 98) (ls' := [vR 137, vI l1]) (st' := [vI (iw (72 + l1)), vR 157, vI l1, vR 141]) (g' := g) k224_97 rfl rfl ?_
    refine q_iald (n := 216) (pc' := 99) rfl k224_98 rfl rfl (fun h10 => ?_)
    refine q_iast (n := 16) (pc' := 100) rfl k224_99 rfl (by decide) rfl (fun h11 => ?_)
    refine q_s (pc' := 101) (ls' := [vR 137, vI l1]) (st' := [vR 137]) (g' := up g 141 l1 (g 157 (iw (72 + l1)))) k224_100 rfl rfl ?_
    refine q_getF (r := 142) (pc' := 104) k224_101 rfl rfl rfl rfl ?_
    refine q_s (pc' := 105) (ls' := [vR 137, vI l1]) (st' := [vI l1, vR 142]) (g' := up g 141 l1 (g 157 (iw (72 + l1)))) k224_104 rfl rfl ?_
    refine q_s (pc' := 106) (ls' := [vR 137, vI l1]) (st' := [vR 137, vI l1, vR 142]) (g' := up g 141 l1 (g 157 (iw (72 + l1)))) k224_105 rfl rfl ?_
    refine q_getF (r := 157) (pc' := 109) k224_106 rfl rfl rfl rfl ?_
    refine q_s (pc' := 111) (ls' := [vR 137, vI l1]) (st' := [vI 88, vR 157, vI l1, vR 142]) (g' := up g 141 l1 (g 157 (iw (72 + l1)))) k224_109 rfl rfl ?_
    refine q_s (pc' := 112) (ls' := [vR 137, vI l1]) (st' := [vI l1, vI 88, vR 157, vI l1, vR 142]) (g' := up g 141 l1 (g 157 (iw (72 + l1)))) k224_111 rfl rfl ?_
    refine q_s (pc' := 113) (ls' := [vR 137, vI l1]) (st' := [vI (iw (88 + l1)), vR 157, vI l1, vR 142]) (g' := up g 141 l1 (g 157 (iw (72 + l1)))) k224_112 rfl rfl ?_
    refine q_iald (n := 216) (pc' := 114) rfl k224_113 rfl rfl (fun h12 => ?_)
    refine q_iast (n := 16) (pc' := 115) rfl k224_114 rfl (by decide) rfl (fun h13 => ?_)
    refine q_s (pc' := 116) (ls' := [vR 137, vI l1]) (st' := [vR 137]) (g' := up (up g 141 l1 (g 157 (iw (72 + l1)))) 142 l1 ((up g 141 l1 (g 157 (iw (72 + l1)))) 157 (iw (88 + l1)))) k224_115 rfl rfl ?_
    refine q_getF (r := 143) (pc' := 119) k224_116 rfl rfl rfl rfl ?_
    refine q_s (pc' := 120) (ls' := [vR 137, vI l1]) (st' := [vI l1, vR 143]) (g' := up (up g 141 l1 (g 157 (iw (72 + l1)))) 142 l1 ((up g 141 l1 (g 157 (iw (72 + l1)))) 157 (iw (88 + l1)))) k224_119 rfl rfl ?_
    refine q_s (pc' := 121) (ls' := [vR 137, vI l1]) (st' := [vR 137, vI l1, vR 143]) (g' := up (up g 141 l1 (g 157 (iw (72 + l1)))) 142 l1 ((up g 141 l1 (g 157 (iw (72 + l1)))) 157 (iw (88 + l1)))) k224_120 rfl rfl ?_
    refine q_getF (r := 157) (pc' := 124) k224_121 rfl rfl rfl rfl ?_
    refine q_s (pc' := 126) (ls' := [vR 137, vI l1]) (st' := [vI 104, vR 157, vI l1, vR 143]) (g' := up (up g 141 l1 (g 157 (iw (72 + l1)))) 142 l1 ((up g 141 l1 (g 157 (iw (72 + l1)))) 157 (iw (88 + l1)))) k224_124 rfl rfl ?_
    refine q_s (pc' := 127) (ls' := [vR 137, vI l1]) (st' := [vI l1, vI 104, vR 157, vI l1, vR 143]) (g' := up (up g 141 l1 (g 157 (iw (72 + l1)))) 142 l1 ((up g 141 l1 (g 157 (iw (72 + l1)))) 157 (iw (88 + l1)))) k224_126 rfl rfl ?_
    refine q_s (pc' := 128) (ls' := [vR 137, vI l1]) (st' := [vI (iw (104 + l1)), vR 157, vI l1, vR 143]) (g' := up (up g 141 l1 (g 157 (iw (72 + l1)))) 142 l1 ((up g 141 l1 (g 157 (iw (72 + l1)))) 157 (iw (88 + l1)))) k224_127 rfl rfl ?_
    refine q_iald (n := 216) (pc' := 129) rfl k224_128 rfl rfl (fun h14 => ?_)
    refine q_iast (n := 16) (pc' := 130) rfl k224_129 rfl (by decide) rfl (fun h15 => ?_)
    refine q_s (pc' := 133) (ls' := [vR 137, vI (iw (l1 + 1))]) (st' := []) (g' := up (up (up g 141 l1 (g 157 (iw (72 + l1)))) 142 l1 ((up g 141 l1 (g 157 (iw (72 + l1)))) 157 (iw (88 + l1)))) 143 l1 ((up (up g 141 l1 (g 157 (iw (72 + l1)))) 142 l1 ((up g 141 l1 (g 157 (iw (72 + l1)))) 157 (iw (88 + l1)))) 157 (iw (104 + l1)))) k224_130 rfl rfl ?_
    refine q_s (pc' := 79) (ls' := [vR 137, vI (iw (l1 + 1))]) (st' := []) (g' := up (up (up g 141 l1 (g 157 (iw (72 + l1)))) 142 l1 ((up g 141 l1 (g 157 (iw (72 + l1)))) 157 (iw (88 + l1)))) 143 l1 ((up (up g 141 l1 (g 157 (iw (72 + l1)))) 142 l1 ((up g 141 l1 (g 157 (iw (72 + l1)))) 157 (iw (88 + l1)))) 157 (iw (104 + l1)))) k224_133 rfl rfl ?_
    rfl
set_option maxHeartbeats 4000000 in
theorem jM_takes_138_eq (L : Nat) (l1 : Int) (g : AMem) : jM_takes_138 L l1 g = if 96 ≤ l1 then (some g) else (if 0 ≤ iw (120 + l1) ∧ iw (120 + l1) < 216 then (if 0 ≤ l1 ∧ l1 < 96 then (jM_takes_138 L (iw (l1 + 1)) (up g 144 l1 (g 157 (iw (120 + l1))))) else none) else none) := by
  unfold jM_takes_138
  refine q_s (pc' := 139) (ls' := [vR 137, vI l1]) (st' := [vI l1]) (g' := g) k224_138 rfl rfl ?_
  refine q_s (pc' := 141) (ls' := [vR 137, vI l1]) (st' := [vI 96, vI l1]) (g' := g) k224_139 rfl rfl ?_
  refine q_ic (P := 96 ≤ l1) (t := 165) (pc' := 144) k224_141 Iff.rfl rfl rfl (fun h16 => ?_) (fun h16 => ?_)
  · exact q_e k224_165 rfl rfl rfl
  · refine q_s (pc' := 145) (ls' := [vR 137, vI l1]) (st' := [vR 137]) (g' := g) k224_144 rfl rfl ?_
    refine q_getF (r := 144) (pc' := 148) k224_145 rfl rfl rfl rfl ?_
    refine q_s (pc' := 149) (ls' := [vR 137, vI l1]) (st' := [vI l1, vR 144]) (g' := g) k224_148 rfl rfl ?_
    refine q_s (pc' := 150) (ls' := [vR 137, vI l1]) (st' := [vR 137, vI l1, vR 144]) (g' := g) k224_149 rfl rfl ?_
    refine q_getF (r := 157) (pc' := 153) k224_150 rfl rfl rfl rfl ?_
    refine q_s (pc' := 155) (ls' := [vR 137, vI l1]) (st' := [vI 120, vR 157, vI l1, vR 144]) (g' := g) k224_153 rfl rfl ?_
    refine q_s (pc' := 156) (ls' := [vR 137, vI l1]) (st' := [vI l1, vI 120, vR 157, vI l1, vR 144]) (g' := g) k224_155 rfl rfl ?_
    refine q_s (pc' := 157) (ls' := [vR 137, vI l1]) (st' := [vI (iw (120 + l1)), vR 157, vI l1, vR 144]) (g' := g) k224_156 rfl rfl ?_
    refine q_iald (n := 216) (pc' := 158) rfl k224_157 rfl rfl (fun h17 => ?_)
    refine q_iast (n := 96) (pc' := 159) rfl k224_158 rfl (by decide) rfl (fun h18 => ?_)
    refine q_s (pc' := 162) (ls' := [vR 137, vI (iw (l1 + 1))]) (st' := []) (g' := up g 144 l1 (g 157 (iw (120 + l1)))) k224_159 rfl rfl ?_
    refine q_s (pc' := 138) (ls' := [vR 137, vI (iw (l1 + 1))]) (st' := []) (g' := up g 144 l1 (g 157 (iw (120 + l1)))) k224_162 rfl rfl ?_
    rfl
set_option maxHeartbeats 4000000 in
theorem jM_read_eq (L : Nat) (g : AMem) : jM_read L g = (jM_lays L g).bind (fun q1 => (jM_readsAll L q1).bind (fun q2 => if 0 ≤ q2.1 then (some (q2.1, q2.2)) else ((jM_takes L q2.2).bind (fun q4 => some (iw ((-300) - (q4 137 25)), q4))))) := by
  unfold jM_read
  refine q_s (pc' := 1) (ls' := [vR 137, vU]) (st' := [vR 137]) (g' := g) k225_0 rfl rfl ?_
  refine q_callV (ls0 := [vR 137, vU]) (rest := []) (pc' := 4) rfl k225_1 rfl (hy4 rfl rfl rfl rfl) rfl rfl hq_223 rfl (fun q1 => ?_)
  refine q_s (pc' := 5) (ls' := [vR 137, vU]) (st' := [vR 137]) (g' := q1) k225_4 rfl rfl ?_
  refine q_callI (ls0 := [vR 137, vU]) (rest := []) (pc' := 8) rfl k225_5 rfl (hy4 rfl rfl rfl rfl) rfl rfl hq_222 rfl (fun q2 => ?_)
  refine q_s (pc' := 9) (ls' := [vR 137, vI q2.1]) (st' := []) (g' := q2.2) k225_8 rfl rfl ?_
  refine q_s (pc' := 10) (ls' := [vR 137, vI q2.1]) (st' := [vI q2.1]) (g' := q2.2) k225_9 rfl rfl ?_
  refine q_if (P := 0 ≤ q2.1) (t := 26) (pc' := 13) k225_10 Iff.rfl rfl rfl (fun h3 => ?_) (fun h3 => ?_)
  · refine q_s (pc' := 27) (ls' := [vR 137, vI q2.1]) (st' := [vI q2.1]) (g' := q2.2) k225_26 rfl rfl ?_
    exact q_e k225_27 rfl rfl rfl
  · refine q_s (pc' := 14) (ls' := [vR 137, vI q2.1]) (st' := [vR 137]) (g' := q2.2) k225_13 rfl rfl ?_
    refine q_callV (ls0 := [vR 137, vU]) (rest := []) (pc' := 17) rfl k225_14 rfl (hy4 rfl rfl rfl rfl) rfl rfl hq_224 rfl (fun q4 => ?_)
    refine q_s (pc' := 20) (ls' := [vR 137, vI q2.1]) (st' := [vI (-300)]) (g' := q4) k225_17 rfl rfl ?_
    refine q_s (pc' := 21) (ls' := [vR 137, vI q2.1]) (st' := [vR 137, vI (-300)]) (g' := q4) k225_20 rfl rfl ?_
    refine q_getI (w := 25) (pc' := 24) k225_21 rfl rfl rfl rfl ?_
    refine q_s (pc' := 25) (ls' := [vR 137, vI q2.1]) (st' := [vI (iw ((-300) - (q4 137 25)))]) (g' := q4) k225_24 rfl rfl ?_
    exact q_e k225_25 rfl rfl rfl
