set_option maxHeartbeats 4000000 in
theorem jRe_readInto_eq (L : Nat) (t1 : Int) (g : AMem) (ht1 : kin (SH L) t1 = 3) : jRe_readInto L t1 g = if kin (SH L) ((up g 115 1 t1) 115 1) = 3 then ((jGr_removeAll L ((up g 115 1 t1) 115 1) (up g 115 1 t1)).bind (fun q2 => jRe_readInto_19 L t1 0 vU vU (up q2 115 2 0))) else none := by
  unfold jRe_readInto
  refine q_s (pc' := 1) (ls' := [vR 115, vR t1, vU, vU, vU]) (st' := [vR 115]) (g' := g) k88_0 rfl rfl ?_
  refine q_ldR_n (pc' := 2) k88_1 rfl rfl (by have := (k2 ht1 (by decide)); omega) ?_
  refine q_putM (w := 1) (pc' := 5) k88_2 rfl rfl rfl rfl ?_
  refine q_s (pc' := 6) (ls' := [vR 115, vR t1, vU, vU, vU]) (st' := [vR 115]) (g' := up g 115 1 t1) k88_5 rfl rfl ?_
  refine q_getM (w := 1) (c := 3) (pc' := 9) rfl k88_6 rfl rfl rfl rfl rfl (fun h1 => ?_)
  refine q_callV (ls0 := [vR ((up g 115 1 t1) 115 1)]) (rest := []) (pc' := 12) rfl k88_9 rfl (hy4 rfl rfl (rcv0 rfl h1) rfl) rfl rfl hq_12 rfl (fun q2 => ?_)
  refine q_s (pc' := 13) (ls' := [vR 115, vR t1, vU, vU, vU]) (st' := [vR 115]) (g' := q2) k88_12 rfl rfl ?_
  refine q_s (pc' := 14) (ls' := [vR 115, vR t1, vU, vU, vU]) (st' := [vI 0, vR 115]) (g' := q2) k88_13 rfl rfl ?_
  refine q_putI (w := 2) (pc' := 17) k88_14 rfl rfl rfl rfl ?_
  refine q_s (pc' := 18) (ls' := [vR 115, vR t1, vU, vU, vU]) (st' := [vI 0]) (g' := up q2 115 2 0) k88_17 rfl rfl ?_
  refine q_s (pc' := 19) (ls' := [vR 115, vR t1, vI 0, vU, vU]) (st' := []) (g' := up q2 115 2 0) k88_18 rfl rfl ?_
  rfl
set_option maxHeartbeats 4000000 in
theorem jRe_readInto_19_eq (L : Nat) (t1 : Int) (l2 : Int) (w3 : AVal) (w4 : AVal) (g : AMem) (ht1 : kin (SH L) t1 = 3) : jRe_readInto_19 L t1 l2 w3 w4 g = if 120 < l2 then (some (iw ((-300) - (g 115 3)), g)) else ((jRe_nextByte L g).bind (fun q4 => if 0 ≤ q4.1 then (if q4.1 ≠ 98 then (if q4.1 ≠ 101 then ((jRe_failAt L (q4.2 115 2) q4.2).bind (fun q8 => if q8.1 ≠ 0 then (jRe_readInto_19 L t1 (iw (l2 + 1)) (vI q4.1) (vI q8.1) q8.2) else (some (iw ((-300) - (q8.2 115 3)), q8.2)))) else ((jRe_readEdge L q4.2).bind (fun q10 => if q10.1 ≠ 0 then (jRe_readInto_19 L t1 (iw (l2 + 1)) (vI q4.1) (vI q10.1) q10.2) else (some (iw ((-300) - (q10.2 115 3)), q10.2))))) else ((jRe_readBlock L q4.2).bind (fun q12 => if q12.1 ≠ 0 then (jRe_readInto_19 L t1 (iw (l2 + 1)) (vI q4.1) (vI q12.1) q12.2) else (some (iw ((-300) - (q12.2 115 3)), q12.2))))) else (if l2 ≤ 0 then (if q4.1 ≠ 98 then (if q4.1 ≠ 101 then ((jRe_failAt L (q4.2 115 2) q4.2).bind (fun q17 => if q17.1 ≠ 0 then (jRe_readInto_19 L t1 (iw (l2 + 1)) (vI q4.1) (vI q17.1) q17.2) else (some (iw ((-300) - (q17.2 115 3)), q17.2)))) else ((jRe_readEdge L q4.2).bind (fun q19 => if q19.1 ≠ 0 then (jRe_readInto_19 L t1 (iw (l2 + 1)) (vI q4.1) (vI q19.1) q19.2) else (some (iw ((-300) - (q19.2 115 3)), q19.2))))) else ((jRe_readBlock L q4.2).bind (fun q21 => if q21.1 ≠ 0 then (jRe_readInto_19 L t1 (iw (l2 + 1)) (vI q4.1) (vI q21.1) q21.2) else (some (iw ((-300) - (q21.2 115 3)), q21.2))))) else (some (l2, q4.2))))) := by
  unfold jRe_readInto_19
  refine q_s (pc' := 20) (ls' := [vR 115, vR t1, vI l2, w3, w4]) (st' := [vI l2]) (g' := g) k88_19 rfl rfl ?_
  refine q_s (pc' := 22) (ls' := [vR 115, vR t1, vI l2, w3, w4]) (st' := [vI 120, vI l2]) (g' := g) k88_20 rfl rfl ?_
  refine q_ic (P := 120 < l2) (t := 90) (pc' := 25) k88_22 Iff.rfl rfl rfl (fun h3 => ?_) (fun h3 => ?_)
  · refine q_s (pc' := 93) (ls' := [vR 115, vR t1, vI l2, w3, w4]) (st' := [vI (-300)]) (g' := g) k88_90 rfl rfl ?_
    refine q_s (pc' := 94) (ls' := [vR 115, vR t1, vI l2, w3, w4]) (st' := [vR 115, vI (-300)]) (g' := g) k88_93 rfl rfl ?_
    refine q_getI (w := 3) (pc' := 97) k88_94 rfl rfl rfl rfl ?_
    refine q_s (pc' := 98) (ls' := [vR 115, vR t1, vI l2, w3, w4]) (st' := [vI (iw ((-300) - (g 115 3)))]) (g' := g) k88_97 rfl rfl ?_
    exact q_e k88_98 rfl rfl rfl
  · refine q_s (pc' := 26) (ls' := [vR 115, vR t1, vI l2, w3, w4]) (st' := [vR 115]) (g' := g) k88_25 rfl rfl ?_
    refine q_callI (ls0 := [vR 115]) (rest := []) (pc' := 29) rfl k88_26 rfl (hy4 rfl rfl rfl rfl) rfl rfl hq_72 rfl (fun q4 => ?_)
    refine q_s (pc' := 30) (ls' := [vR 115, vR t1, vI l2, vI q4.1, w4]) (st' := []) (g' := q4.2) k88_29 rfl rfl ?_
    refine q_s (pc' := 31) (ls' := [vR 115, vR t1, vI l2, vI q4.1, w4]) (st' := [vI q4.1]) (g' := q4.2) k88_30 rfl rfl ?_
    refine q_if (P := 0 ≤ q4.1) (t := 40) (pc' := 34) k88_31 Iff.rfl rfl rfl (fun h5 => ?_) (fun h5 => ?_)
    · refine q_s (pc' := 41) (ls' := [vR 115, vR t1, vI l2, vI q4.1, w4]) (st' := [vI q4.1]) (g' := q4.2) k88_40 rfl rfl ?_
      refine q_s (pc' := 43) (ls' := [vR 115, vR t1, vI l2, vI q4.1, w4]) (st' := [vI 98, vI q4.1]) (g' := q4.2) k88_41 rfl rfl ?_
      refine q_ic (P := q4.1 ≠ 98) (t := 53) (pc' := 46) k88_43 Iff.rfl rfl rfl (fun h6 => ?_) (fun h6 => ?_)
      · refine q_s (pc' := 54) (ls' := [vR 115, vR t1, vI l2, vI q4.1, w4]) (st' := [vI q4.1]) (g' := q4.2) k88_53 rfl rfl ?_
        refine q_s (pc' := 56) (ls' := [vR 115, vR t1, vI l2, vI q4.1, w4]) (st' := [vI 101, vI q4.1]) (g' := q4.2) k88_54 rfl rfl ?_
        refine q_ic (P := q4.1 ≠ 101) (t := 66) (pc' := 59) k88_56 Iff.rfl rfl rfl (fun h7 => ?_) (fun h7 => ?_)
        · refine q_s (pc' := 67) (ls' := [vR 115, vR t1, vI l2, vI q4.1, w4]) (st' := [vR 115]) (g' := q4.2) k88_66 rfl rfl ?_
          refine q_s (pc' := 68) (ls' := [vR 115, vR t1, vI l2, vI q4.1, w4]) (st' := [vR 115, vR 115]) (g' := q4.2) k88_67 rfl rfl ?_
          refine q_getI (w := 2) (pc' := 71) k88_68 rfl rfl rfl rfl ?_
          refine q_callI (ls0 := [vR 115, vI (q4.2 115 2)]) (rest := []) (pc' := 74) rfl k88_71 rfl (hy4 rfl rfl rfl rfl) rfl rfl hq_73 rfl (fun q8 => ?_)
          refine q_s (pc' := 76) (ls' := [vR 115, vR t1, vI l2, vI q4.1, vI q8.1]) (st' := []) (g' := q8.2) k88_74 rfl rfl ?_
          refine q_s (pc' := 78) (ls' := [vR 115, vR t1, vI l2, vI q4.1, vI q8.1]) (st' := [vI q8.1]) (g' := q8.2) k88_76 rfl rfl ?_
          refine q_if (P := q8.1 ≠ 0) (t := 84) (pc' := 81) k88_78 Iff.rfl rfl rfl (fun h9 => ?_) (fun h9 => ?_)
          · refine q_s (pc' := 87) (ls' := [vR 115, vR t1, vI (iw (l2 + 1)), vI q4.1, vI q8.1]) (st' := []) (g' := q8.2) k88_84 rfl rfl ?_
            refine q_s (pc' := 19) (ls' := [vR 115, vR t1, vI (iw (l2 + 1)), vI q4.1, vI q8.1]) (st' := []) (g' := q8.2) k88_87 rfl rfl ?_
            rfl
          · refine q_s (pc' := 90) (ls' := [vR 115, vR t1, vI l2, vI q4.1, vI q8.1]) (st' := []) (g' := q8.2) k88_81 rfl rfl ?_
            refine q_s (pc' := 93) (ls' := [vR 115, vR t1, vI l2, vI q4.1, vI q8.1]) (st' := [vI (-300)]) (g' := q8.2) k88_90 rfl rfl ?_
            refine q_s (pc' := 94) (ls' := [vR 115, vR t1, vI l2, vI q4.1, vI q8.1]) (st' := [vR 115, vI (-300)]) (g' := q8.2) k88_93 rfl rfl ?_
            refine q_getI (w := 3) (pc' := 97) k88_94 rfl rfl rfl rfl ?_
            refine q_s (pc' := 98) (ls' := [vR 115, vR t1, vI l2, vI q4.1, vI q8.1]) (st' := [vI (iw ((-300) - (q8.2 115 3)))]) (g' := q8.2) k88_97 rfl rfl ?_
            exact q_e k88_98 rfl rfl rfl
        · refine q_s (pc' := 60) (ls' := [vR 115, vR t1, vI l2, vI q4.1, w4]) (st' := [vR 115]) (g' := q4.2) k88_59 rfl rfl ?_
          refine q_callI (ls0 := [vR 115, vU, vU, vU, vU]) (rest := []) (pc' := 63) rfl k88_60 rfl (hy4 rfl rfl rfl rfl) rfl rfl hq_87 rfl (fun q10 => ?_)
          refine q_s (pc' := 74) (ls' := [vR 115, vR t1, vI l2, vI q4.1, w4]) (st' := [vI q10.1]) (g' := q10.2) k88_63 rfl rfl ?_
          refine q_s (pc' := 76) (ls' := [vR 115, vR t1, vI l2, vI q4.1, vI q10.1]) (st' := []) (g' := q10.2) k88_74 rfl rfl ?_
          refine q_s (pc' := 78) (ls' := [vR 115, vR t1, vI l2, vI q4.1, vI q10.1]) (st' := [vI q10.1]) (g' := q10.2) k88_76 rfl rfl ?_
          refine q_if (P := q10.1 ≠ 0) (t := 84) (pc' := 81) k88_78 Iff.rfl rfl rfl (fun h11 => ?_) (fun h11 => ?_)
          · refine q_s (pc' := 87) (ls' := [vR 115, vR t1, vI (iw (l2 + 1)), vI q4.1, vI q10.1]) (st' := []) (g' := q10.2) k88_84 rfl rfl ?_
            refine q_s (pc' := 19) (ls' := [vR 115, vR t1, vI (iw (l2 + 1)), vI q4.1, vI q10.1]) (st' := []) (g' := q10.2) k88_87 rfl rfl ?_
            rfl
          · refine q_s (pc' := 90) (ls' := [vR 115, vR t1, vI l2, vI q4.1, vI q10.1]) (st' := []) (g' := q10.2) k88_81 rfl rfl ?_
            refine q_s (pc' := 93) (ls' := [vR 115, vR t1, vI l2, vI q4.1, vI q10.1]) (st' := [vI (-300)]) (g' := q10.2) k88_90 rfl rfl ?_
            refine q_s (pc' := 94) (ls' := [vR 115, vR t1, vI l2, vI q4.1, vI q10.1]) (st' := [vR 115, vI (-300)]) (g' := q10.2) k88_93 rfl rfl ?_
            refine q_getI (w := 3) (pc' := 97) k88_94 rfl rfl rfl rfl ?_
            refine q_s (pc' := 98) (ls' := [vR 115, vR t1, vI l2, vI q4.1, vI q10.1]) (st' := [vI (iw ((-300) - (q10.2 115 3)))]) (g' := q10.2) k88_97 rfl rfl ?_
            exact q_e k88_98 rfl rfl rfl
      · refine q_s (pc' := 47) (ls' := [vR 115, vR t1, vI l2, vI q4.1, w4]) (st' := [vR 115]) (g' := q4.2) k88_46 rfl rfl ?_
        refine q_callI (ls0 := [vR 115, vU, vU, vU, vU]) (rest := []) (pc' := 50) rfl k88_47 rfl (hy4 rfl rfl rfl rfl) rfl rfl hq_79 rfl (fun q12 => ?_)
        refine q_s (pc' := 74) (ls' := [vR 115, vR t1, vI l2, vI q4.1, w4]) (st' := [vI q12.1]) (g' := q12.2) k88_50 rfl rfl ?_
        refine q_s (pc' := 76) (ls' := [vR 115, vR t1, vI l2, vI q4.1, vI q12.1]) (st' := []) (g' := q12.2) k88_74 rfl rfl ?_
        refine q_s (pc' := 78) (ls' := [vR 115, vR t1, vI l2, vI q4.1, vI q12.1]) (st' := [vI q12.1]) (g' := q12.2) k88_76 rfl rfl ?_
        refine q_if (P := q12.1 ≠ 0) (t := 84) (pc' := 81) k88_78 Iff.rfl rfl rfl (fun h13 => ?_) (fun h13 => ?_)
        · refine q_s (pc' := 87) (ls' := [vR 115, vR t1, vI (iw (l2 + 1)), vI q4.1, vI q12.1]) (st' := []) (g' := q12.2) k88_84 rfl rfl ?_
          refine q_s (pc' := 19) (ls' := [vR 115, vR t1, vI (iw (l2 + 1)), vI q4.1, vI q12.1]) (st' := []) (g' := q12.2) k88_87 rfl rfl ?_
          rfl
        · refine q_s (pc' := 90) (ls' := [vR 115, vR t1, vI l2, vI q4.1, vI q12.1]) (st' := []) (g' := q12.2) k88_81 rfl rfl ?_
          refine q_s (pc' := 93) (ls' := [vR 115, vR t1, vI l2, vI q4.1, vI q12.1]) (st' := [vI (-300)]) (g' := q12.2) k88_90 rfl rfl ?_
          refine q_s (pc' := 94) (ls' := [vR 115, vR t1, vI l2, vI q4.1, vI q12.1]) (st' := [vR 115, vI (-300)]) (g' := q12.2) k88_93 rfl rfl ?_
          refine q_getI (w := 3) (pc' := 97) k88_94 rfl rfl rfl rfl ?_
          refine q_s (pc' := 98) (ls' := [vR 115, vR t1, vI l2, vI q4.1, vI q12.1]) (st' := [vI (iw ((-300) - (q12.2 115 3)))]) (g' := q12.2) k88_97 rfl rfl ?_
          exact q_e k88_98 rfl rfl rfl
    · refine q_s (pc' := 35) (ls' := [vR 115, vR t1, vI l2, vI q4.1, w4]) (st' := [vI l2]) (g' := q4.2) k88_34 rfl rfl ?_
      refine q_if (P := l2 ≤ 0) (t := 40) (pc' := 38) k88_35 Iff.rfl rfl rfl (fun h14 => ?_) (fun h14 => ?_)
      · refine q_s (pc' := 41) (ls' := [vR 115, vR t1, vI l2, vI q4.1, w4]) (st' := [vI q4.1]) (g' := q4.2) k88_40 rfl rfl ?_
        refine q_s (pc' := 43) (ls' := [vR 115, vR t1, vI l2, vI q4.1, w4]) (st' := [vI 98, vI q4.1]) (g' := q4.2) k88_41 rfl rfl ?_
        refine q_ic (P := q4.1 ≠ 98) (t := 53) (pc' := 46) k88_43 Iff.rfl rfl rfl (fun h15 => ?_) (fun h15 => ?_)
        · refine q_s (pc' := 54) (ls' := [vR 115, vR t1, vI l2, vI q4.1, w4]) (st' := [vI q4.1]) (g' := q4.2) k88_53 rfl rfl ?_
          refine q_s (pc' := 56) (ls' := [vR 115, vR t1, vI l2, vI q4.1, w4]) (st' := [vI 101, vI q4.1]) (g' := q4.2) k88_54 rfl rfl ?_
          refine q_ic (P := q4.1 ≠ 101) (t := 66) (pc' := 59) k88_56 Iff.rfl rfl rfl (fun h16 => ?_) (fun h16 => ?_)
          · refine q_s (pc' := 67) (ls' := [vR 115, vR t1, vI l2, vI q4.1, w4]) (st' := [vR 115]) (g' := q4.2) k88_66 rfl rfl ?_
            refine q_s (pc' := 68) (ls' := [vR 115, vR t1, vI l2, vI q4.1, w4]) (st' := [vR 115, vR 115]) (g' := q4.2) k88_67 rfl rfl ?_
            refine q_getI (w := 2) (pc' := 71) k88_68 rfl rfl rfl rfl ?_
            refine q_callI (ls0 := [vR 115, vI (q4.2 115 2)]) (rest := []) (pc' := 74) rfl k88_71 rfl (hy4 rfl rfl rfl rfl) rfl rfl hq_73 rfl (fun q17 => ?_)
            refine q_s (pc' := 76) (ls' := [vR 115, vR t1, vI l2, vI q4.1, vI q17.1]) (st' := []) (g' := q17.2) k88_74 rfl rfl ?_
            refine q_s (pc' := 78) (ls' := [vR 115, vR t1, vI l2, vI q4.1, vI q17.1]) (st' := [vI q17.1]) (g' := q17.2) k88_76 rfl rfl ?_
            refine q_if (P := q17.1 ≠ 0) (t := 84) (pc' := 81) k88_78 Iff.rfl rfl rfl (fun h18 => ?_) (fun h18 => ?_)
            · refine q_s (pc' := 87) (ls' := [vR 115, vR t1, vI (iw (l2 + 1)), vI q4.1, vI q17.1]) (st' := []) (g' := q17.2) k88_84 rfl rfl ?_
              refine q_s (pc' := 19) (ls' := [vR 115, vR t1, vI (iw (l2 + 1)), vI q4.1, vI q17.1]) (st' := []) (g' := q17.2) k88_87 rfl rfl ?_
              rfl
            · refine q_s (pc' := 90) (ls' := [vR 115, vR t1, vI l2, vI q4.1, vI q17.1]) (st' := []) (g' := q17.2) k88_81 rfl rfl ?_
              refine q_s (pc' := 93) (ls' := [vR 115, vR t1, vI l2, vI q4.1, vI q17.1]) (st' := [vI (-300)]) (g' := q17.2) k88_90 rfl rfl ?_
              refine q_s (pc' := 94) (ls' := [vR 115, vR t1, vI l2, vI q4.1, vI q17.1]) (st' := [vR 115, vI (-300)]) (g' := q17.2) k88_93 rfl rfl ?_
              refine q_getI (w := 3) (pc' := 97) k88_94 rfl rfl rfl rfl ?_
              refine q_s (pc' := 98) (ls' := [vR 115, vR t1, vI l2, vI q4.1, vI q17.1]) (st' := [vI (iw ((-300) - (q17.2 115 3)))]) (g' := q17.2) k88_97 rfl rfl ?_
              exact q_e k88_98 rfl rfl rfl
          · refine q_s (pc' := 60) (ls' := [vR 115, vR t1, vI l2, vI q4.1, w4]) (st' := [vR 115]) (g' := q4.2) k88_59 rfl rfl ?_
            refine q_callI (ls0 := [vR 115, vU, vU, vU, vU]) (rest := []) (pc' := 63) rfl k88_60 rfl (hy4 rfl rfl rfl rfl) rfl rfl hq_87 rfl (fun q19 => ?_)
            refine q_s (pc' := 74) (ls' := [vR 115, vR t1, vI l2, vI q4.1, w4]) (st' := [vI q19.1]) (g' := q19.2) k88_63 rfl rfl ?_
            refine q_s (pc' := 76) (ls' := [vR 115, vR t1, vI l2, vI q4.1, vI q19.1]) (st' := []) (g' := q19.2) k88_74 rfl rfl ?_
            refine q_s (pc' := 78) (ls' := [vR 115, vR t1, vI l2, vI q4.1, vI q19.1]) (st' := [vI q19.1]) (g' := q19.2) k88_76 rfl rfl ?_
            refine q_if (P := q19.1 ≠ 0) (t := 84) (pc' := 81) k88_78 Iff.rfl rfl rfl (fun h20 => ?_) (fun h20 => ?_)
            · refine q_s (pc' := 87) (ls' := [vR 115, vR t1, vI (iw (l2 + 1)), vI q4.1, vI q19.1]) (st' := []) (g' := q19.2) k88_84 rfl rfl ?_
              refine q_s (pc' := 19) (ls' := [vR 115, vR t1, vI (iw (l2 + 1)), vI q4.1, vI q19.1]) (st' := []) (g' := q19.2) k88_87 rfl rfl ?_
              rfl
            · refine q_s (pc' := 90) (ls' := [vR 115, vR t1, vI l2, vI q4.1, vI q19.1]) (st' := []) (g' := q19.2) k88_81 rfl rfl ?_
              refine q_s (pc' := 93) (ls' := [vR 115, vR t1, vI l2, vI q4.1, vI q19.1]) (st' := [vI (-300)]) (g' := q19.2) k88_90 rfl rfl ?_
              refine q_s (pc' := 94) (ls' := [vR 115, vR t1, vI l2, vI q4.1, vI q19.1]) (st' := [vR 115, vI (-300)]) (g' := q19.2) k88_93 rfl rfl ?_
              refine q_getI (w := 3) (pc' := 97) k88_94 rfl rfl rfl rfl ?_
              refine q_s (pc' := 98) (ls' := [vR 115, vR t1, vI l2, vI q4.1, vI q19.1]) (st' := [vI (iw ((-300) - (q19.2 115 3)))]) (g' := q19.2) k88_97 rfl rfl ?_
              exact q_e k88_98 rfl rfl rfl
        · refine q_s (pc' := 47) (ls' := [vR 115, vR t1, vI l2, vI q4.1, w4]) (st' := [vR 115]) (g' := q4.2) k88_46 rfl rfl ?_
          refine q_callI (ls0 := [vR 115, vU, vU, vU, vU]) (rest := []) (pc' := 50) rfl k88_47 rfl (hy4 rfl rfl rfl rfl) rfl rfl hq_79 rfl (fun q21 => ?_)
          refine q_s (pc' := 74) (ls' := [vR 115, vR t1, vI l2, vI q4.1, w4]) (st' := [vI q21.1]) (g' := q21.2) k88_50 rfl rfl ?_
          refine q_s (pc' := 76) (ls' := [vR 115, vR t1, vI l2, vI q4.1, vI q21.1]) (st' := []) (g' := q21.2) k88_74 rfl rfl ?_
          refine q_s (pc' := 78) (ls' := [vR 115, vR t1, vI l2, vI q4.1, vI q21.1]) (st' := [vI q21.1]) (g' := q21.2) k88_76 rfl rfl ?_
          refine q_if (P := q21.1 ≠ 0) (t := 84) (pc' := 81) k88_78 Iff.rfl rfl rfl (fun h22 => ?_) (fun h22 => ?_)
          · refine q_s (pc' := 87) (ls' := [vR 115, vR t1, vI (iw (l2 + 1)), vI q4.1, vI q21.1]) (st' := []) (g' := q21.2) k88_84 rfl rfl ?_
            refine q_s (pc' := 19) (ls' := [vR 115, vR t1, vI (iw (l2 + 1)), vI q4.1, vI q21.1]) (st' := []) (g' := q21.2) k88_87 rfl rfl ?_
            rfl
          · refine q_s (pc' := 90) (ls' := [vR 115, vR t1, vI l2, vI q4.1, vI q21.1]) (st' := []) (g' := q21.2) k88_81 rfl rfl ?_
            refine q_s (pc' := 93) (ls' := [vR 115, vR t1, vI l2, vI q4.1, vI q21.1]) (st' := [vI (-300)]) (g' := q21.2) k88_90 rfl rfl ?_
            refine q_s (pc' := 94) (ls' := [vR 115, vR t1, vI l2, vI q4.1, vI q21.1]) (st' := [vR 115, vI (-300)]) (g' := q21.2) k88_93 rfl rfl ?_
            refine q_getI (w := 3) (pc' := 97) k88_94 rfl rfl rfl rfl ?_
            refine q_s (pc' := 98) (ls' := [vR 115, vR t1, vI l2, vI q4.1, vI q21.1]) (st' := [vI (iw ((-300) - (q21.2 115 3)))]) (g' := q21.2) k88_97 rfl rfl ?_
            exact q_e k88_98 rfl rfl rfl
      · refine q_s (pc' := 39) (ls' := [vR 115, vR t1, vI l2, vI q4.1, w4]) (st' := [vI l2]) (g' := q4.2) k88_38 rfl rfl ?_
        exact q_e k88_39 rfl rfl rfl
set_option maxHeartbeats 4000000 in
theorem jRg_isArgumentFor_eq (L : Nat) (a0 : Int) (a1 : Int) (g : AMem) : jRg_isArgumentFor L a0 a1 g = (jRg_isConstant L a0 g).bind (fun q1 => if q1.1 ≠ 0 then (some (1, q1.2)) else ((jRg_isAsWide L a0 a1 q1.2).bind (fun q3 => if q3.1 = 0 then (some (0, q3.2)) else (some (1, q3.2))))) := by
  unfold jRg_isArgumentFor
  refine q_s (pc' := 1) (ls' := [vI a0, vI a1]) (st' := [vI a0]) (g' := g) k89_0 rfl rfl ?_
  refine q_callI (ls0 := [vI a0]) (rest := []) (pc' := 4) rfl k89_1 rfl (hy4 rfl rfl rfl rfl) rfl rfl hq_84 rfl (fun q1 => ?_)
  refine q_if (P := q1.1 ≠ 0) (t := 15) (pc' := 7) k89_4 Iff.rfl rfl rfl (fun h2 => ?_) (fun h2 => ?_)
  · refine q_s (pc' := 16) (ls' := [vI a0, vI a1]) (st' := [vI 1]) (g' := q1.2) k89_15 rfl rfl ?_
    refine q_s (pc' := 20) (ls' := [vI a0, vI a1]) (st' := [vI 1]) (g' := q1.2) k89_16 rfl rfl ?_
    exact q_e k89_20 rfl rfl rfl
  · refine q_s (pc' := 8) (ls' := [vI a0, vI a1]) (st' := [vI a0]) (g' := q1.2) k89_7 rfl rfl ?_
    refine q_s (pc' := 9) (ls' := [vI a0, vI a1]) (st' := [vI a1, vI a0]) (g' := q1.2) k89_8 rfl rfl ?_
    refine q_callI (ls0 := [vI a0, vI a1]) (rest := []) (pc' := 12) rfl k89_9 rfl (hy4 rfl rfl rfl rfl) rfl rfl hq_85 rfl (fun q3 => ?_)
    refine q_if (P := q3.1 = 0) (t := 19) (pc' := 15) k89_12 Iff.rfl rfl rfl (fun h4 => ?_) (fun h4 => ?_)
    · refine q_s (pc' := 20) (ls' := [vI a0, vI a1]) (st' := [vI 0]) (g' := q3.2) k89_19 rfl rfl ?_
      exact q_e k89_20 rfl rfl rfl
    · refine q_s (pc' := 16) (ls' := [vI a0, vI a1]) (st' := [vI 1]) (g' := q3.2) k89_15 rfl rfl ?_
      refine q_s (pc' := 20) (ls' := [vI a0, vI a1]) (st' := [vI 1]) (g' := q3.2) k89_16 rfl rfl ?_
      exact q_e k89_20 rfl rfl rfl
set_option maxHeartbeats 4000000 in
theorem jTe_append_eq (L : Nat) (a1 : Int) (g : AMem) : jTe_append L a1 g = if 120 ≤ g 113 1 then (some g) else (if 0 ≤ g 113 1 ∧ g 113 1 < 120 then (some (up (up g 114 (g 113 1) a1) 113 1 (iw (((up g 114 (g 113 1) a1) 113 1) + 1)))) else none) := by
  unfold jTe_append
  refine q_s (pc' := 1) (ls' := [vR 113, vI a1]) (st' := [vR 113]) (g' := g) k91_0 rfl rfl ?_
  refine q_getI (w := 1) (pc' := 4) k91_1 rfl rfl rfl rfl ?_
  refine q_s (pc' := 6) (ls' := [vR 113, vI a1]) (st' := [vI 120, vI (g 113 1)]) (g' := g) k91_4 rfl rfl ?_
  refine q_ic (P := 120 ≤ g 113 1) (t := 29) (pc' := 9) k91_6 Iff.rfl rfl rfl (fun h1 => ?_) (fun h1 => ?_)
  · exact q_e k91_29 rfl rfl rfl
  · refine q_s (pc' := 10) (ls' := [vR 113, vI a1]) (st' := [vR 113]) (g' := g) k91_9 rfl rfl ?_
    refine q_getF (r := 114) (pc' := 13) k91_10 rfl rfl rfl rfl ?_
    refine q_s (pc' := 14) (ls' := [vR 113, vI a1]) (st' := [vR 113, vR 114]) (g' := g) k91_13 rfl rfl ?_
    refine q_getI (w := 1) (pc' := 17) k91_14 rfl rfl rfl rfl ?_
    refine q_s (pc' := 18) (ls' := [vR 113, vI a1]) (st' := [vI a1, vI (g 113 1), vR 114]) (g' := g) k91_17 rfl rfl ?_
    refine q_iast (n := 120) (pc' := 19) rfl k91_18 rfl (by decide) rfl (fun h2 => ?_)
    refine q_s (pc' := 20) (ls' := [vR 113, vI a1]) (st' := [vR 113]) (g' := up g 114 (g 113 1) a1) k91_19 rfl rfl ?_
    refine q_s (pc' := 21) (ls' := [vR 113, vI a1]) (st' := [vR 113, vR 113]) (g' := up g 114 (g 113 1) a1) k91_20 rfl rfl ?_
    refine q_getI (w := 1) (pc' := 24) k91_21 rfl rfl rfl rfl ?_
    refine q_s (pc' := 25) (ls' := [vR 113, vI a1]) (st' := [vI 1, vI ((up g 114 (g 113 1) a1) 113 1), vR 113]) (g' := up g 114 (g 113 1) a1) k91_24 rfl rfl ?_
    refine q_s (pc' := 26) (ls' := [vR 113, vI a1]) (st' := [vI (iw (((up g 114 (g 113 1) a1) 113 1) + 1)), vR 113]) (g' := up g 114 (g 113 1) a1) k91_25 rfl rfl ?_
    refine q_putI (w := 1) (pc' := 29) k91_26 rfl rfl rfl rfl ?_
    exact q_e k91_29 rfl rfl rfl
set_option maxHeartbeats 4000000 in
theorem jX_anew_eq (L : Nat) (g : AMem) : jX_anew L g = if kin (SH L) (g 2 0) = 3 then (if kin (SH L) (g 2 0) = 3 then ((jGr_removeAll L (g 2 0) g).bind (fun q3 => some (g (g 2 0) 3, q3))) else none) else none := by
  unfold jX_anew
  refine q_s (pc' := 1) (ls' := [vR 2, vU]) (st' := [vR 2]) (g' := g) k93_0 rfl rfl ?_
  refine q_getM (w := 0) (c := 3) (pc' := 4) rfl k93_1 rfl rfl rfl rfl rfl (fun h1 => ?_)
  refine q_getI (w := 3) (pc' := 7) k93_4 h1 rfl rfl rfl ?_
  refine q_s (pc' := 8) (ls' := [vR 2, vI (g (g 2 0) 3)]) (st' := []) (g' := g) k93_7 rfl rfl ?_
  refine q_s (pc' := 9) (ls' := [vR 2, vI (g (g 2 0) 3)]) (st' := [vR 2]) (g' := g) k93_8 rfl rfl ?_
  refine q_getM (w := 0) (c := 3) (pc' := 12) rfl k93_9 rfl rfl rfl rfl rfl (fun h2 => ?_)
  refine q_callV (ls0 := [vR (g 2 0)]) (rest := []) (pc' := 15) rfl k93_12 rfl (hy4 rfl rfl (rcv0 rfl h2) rfl) rfl rfl hq_12 rfl (fun q3 => ?_)
  refine q_s (pc' := 16) (ls' := [vR 2, vI (g (g 2 0) 3)]) (st' := [vI (g (g 2 0) 3)]) (g' := q3) k93_15 rfl rfl ?_
  exact q_e k93_16 rfl rfl rfl
set_option maxHeartbeats 4000000 in
theorem jX_refuse_eq (L : Nat) (a1 : Int) (g : AMem) : jX_refuse L a1 g = if a1 ≠ (-202) then (if a1 ≠ (-203) then (some (a1, up g 2 13 (iw ((g 2 13) + 1)))) else (some (a1, up g 2 12 (iw ((g 2 12) + 1))))) else (some (a1, up g 2 11 (iw ((g 2 11) + 1)))) := by
  unfold jX_refuse
  refine q_s (pc' := 1) (ls' := [vR 2, vI a1]) (st' := [vI a1]) (g' := g) k94_0 rfl rfl ?_
  refine q_s (pc' := 4) (ls' := [vR 2, vI a1]) (st' := [vI (-202), vI a1]) (g' := g) k94_1 rfl rfl ?_
  refine q_ic (P := a1 ≠ (-202)) (t := 20) (pc' := 7) k94_4 Iff.rfl rfl rfl (fun h1 => ?_) (fun h1 => ?_)
  · refine q_s (pc' := 21) (ls' := [vR 2, vI a1]) (st' := [vI a1]) (g' := g) k94_20 rfl rfl ?_
    refine q_s (pc' := 24) (ls' := [vR 2, vI a1]) (st' := [vI (-203), vI a1]) (g' := g) k94_21 rfl rfl ?_
    refine q_ic (P := a1 ≠ (-203)) (t := 40) (pc' := 27) k94_24 Iff.rfl rfl rfl (fun h2 => ?_) (fun h2 => ?_)
    · refine q_s (pc' := 41) (ls' := [vR 2, vI a1]) (st' := [vR 2]) (g' := g) k94_40 rfl rfl ?_
      refine q_s (pc' := 42) (ls' := [vR 2, vI a1]) (st' := [vR 2, vR 2]) (g' := g) k94_41 rfl rfl ?_
      refine q_getI (w := 13) (pc' := 45) k94_42 rfl rfl rfl rfl ?_
      refine q_s (pc' := 46) (ls' := [vR 2, vI a1]) (st' := [vI 1, vI (g 2 13), vR 2]) (g' := g) k94_45 rfl rfl ?_
      refine q_s (pc' := 47) (ls' := [vR 2, vI a1]) (st' := [vI (iw ((g 2 13) + 1)), vR 2]) (g' := g) k94_46 rfl rfl ?_
      refine q_putI (w := 13) (pc' := 50) k94_47 rfl rfl rfl rfl ?_
      refine q_s (pc' := 51) (ls' := [vR 2, vI a1]) (st' := [vI a1]) (g' := up g 2 13 (iw ((g 2 13) + 1))) k94_50 rfl rfl ?_
      exact q_e k94_51 rfl rfl rfl
    · refine q_s (pc' := 28) (ls' := [vR 2, vI a1]) (st' := [vR 2]) (g' := g) k94_27 rfl rfl ?_
      refine q_s (pc' := 29) (ls' := [vR 2, vI a1]) (st' := [vR 2, vR 2]) (g' := g) k94_28 rfl rfl ?_
      refine q_getI (w := 12) (pc' := 32) k94_29 rfl rfl rfl rfl ?_
      refine q_s (pc' := 33) (ls' := [vR 2, vI a1]) (st' := [vI 1, vI (g 2 12), vR 2]) (g' := g) k94_32 rfl rfl ?_
      refine q_s (pc' := 34) (ls' := [vR 2, vI a1]) (st' := [vI (iw ((g 2 12) + 1)), vR 2]) (g' := g) k94_33 rfl rfl ?_
      refine q_putI (w := 12) (pc' := 37) k94_34 rfl rfl rfl rfl ?_
      refine q_s (pc' := 50) (ls' := [vR 2, vI a1]) (st' := []) (g' := up g 2 12 (iw ((g 2 12) + 1))) k94_37 rfl rfl ?_
      refine q_s (pc' := 51) (ls' := [vR 2, vI a1]) (st' := [vI a1]) (g' := up g 2 12 (iw ((g 2 12) + 1))) k94_50 rfl rfl ?_
      exact q_e k94_51 rfl rfl rfl
  · refine q_s (pc' := 8) (ls' := [vR 2, vI a1]) (st' := [vR 2]) (g' := g) k94_7 rfl rfl ?_
    refine q_s (pc' := 9) (ls' := [vR 2, vI a1]) (st' := [vR 2, vR 2]) (g' := g) k94_8 rfl rfl ?_
    refine q_getI (w := 11) (pc' := 12) k94_9 rfl rfl rfl rfl ?_
    refine q_s (pc' := 13) (ls' := [vR 2, vI a1]) (st' := [vI 1, vI (g 2 11), vR 2]) (g' := g) k94_12 rfl rfl ?_
    refine q_s (pc' := 14) (ls' := [vR 2, vI a1]) (st' := [vI (iw ((g 2 11) + 1)), vR 2]) (g' := g) k94_13 rfl rfl ?_
    refine q_putI (w := 11) (pc' := 17) k94_14 rfl rfl rfl rfl ?_
    refine q_s (pc' := 50) (ls' := [vR 2, vI a1]) (st' := []) (g' := up g 2 11 (iw ((g 2 11) + 1))) k94_17 rfl rfl ?_
    refine q_s (pc' := 51) (ls' := [vR 2, vI a1]) (st' := [vI a1]) (g' := up g 2 11 (iw ((g 2 11) + 1))) k94_50 rfl rfl ?_
    exact q_e k94_51 rfl rfl rfl
set_option maxHeartbeats 4000000 in
theorem jX_block_eq (L : Nat) (g : AMem) : jX_block L g = if kin (SH L) (g 2 0) = 3 then (if g (g 2 0) 2 < 10 then (if kin (SH L) (g 2 0) = 3 then ((jGr_addBlock L (g 2 0) g).bind (fun q4 => some (q4.1, q4.2))) else none) else ((jX_refuse L (-204) g).bind (fun q5 => some (q5.1, q5.2)))) else none := by
  unfold jX_block
  refine q_s (pc' := 1) (ls' := [vR 2]) (st' := [vR 2]) (g' := g) k95_0 rfl rfl ?_
  refine q_getM (w := 0) (c := 3) (pc' := 4) rfl k95_1 rfl rfl rfl rfl rfl (fun h1 => ?_)
  refine q_getI (w := 2) (pc' := 7) k95_4 h1 rfl rfl rfl ?_
  refine q_s (pc' := 9) (ls' := [vR 2]) (st' := [vI 10, vI (g (g 2 0) 2)]) (g' := g) k95_7 rfl rfl ?_
  refine q_ic (P := g (g 2 0) 2 < 10) (t := 20) (pc' := 12) k95_9 Iff.rfl rfl rfl (fun h2 => ?_) (fun h2 => ?_)
  · refine q_s (pc' := 21) (ls' := [vR 2]) (st' := [vR 2]) (g' := g) k95_20 rfl rfl ?_
    refine q_getM (w := 0) (c := 3) (pc' := 24) rfl k95_21 rfl rfl rfl rfl rfl (fun h3 => ?_)
    refine q_callI (ls0 := [vR (g 2 0)]) (rest := []) (pc' := 27) rfl k95_24 rfl (hy4 rfl rfl (rcv0 rfl h3) rfl) rfl rfl hq_17 rfl (fun q4 => ?_)
    exact q_e k95_27 rfl rfl rfl
  · refine q_s (pc' := 13) (ls' := [vR 2]) (st' := [vR 2]) (g' := g) k95_12 rfl rfl ?_
    refine q_s (pc' := 16) (ls' := [vR 2]) (st' := [vI (-204), vR 2]) (g' := g) k95_13 rfl rfl ?_
    refine q_callI (ls0 := [vR 2, vI (-204)]) (rest := []) (pc' := 19) rfl k95_16 rfl (hy4 rfl rfl rfl rfl) rfl rfl hq_94 rfl (fun q5 => ?_)
    exact q_e k95_19 rfl rfl rfl
set_option maxHeartbeats 4000000 in
theorem jX_parameter_eq (L : Nat) (a1 : Int) (a2 : Int) (g : AMem) : jX_parameter L a1 a2 g = if kin (SH L) (g 2 0) = 3 then ((jGr_hasBlock L (g 2 0) a1 g).bind (fun q2 => if q2.1 = 0 then ((jX_refuse L (-202) q2.2).bind (fun q4 => some (q4.1, q4.2))) else ((jRg_isRegion L a2 q2.2).bind (fun q5 => if q5.1 ≠ 0 then (if kin (SH L) (q5.2 2 0) = 3 then (if 0 ≤ a1 ∧ a1 < 10 then ((jBk_hasRoomAt L (q5.2 2 0 + 2 + 2 * a1) a2 q5.2).bind (fun q9 => if q9.1 ≠ 0 then (if kin (SH L) (q9.2 2 0) = 3 then (if 0 ≤ a1 ∧ a1 < 10 then (if q9.2 (q9.2 2 0 + 2 + 2 * a1) 1 < 6 then (if kin (SH L) (q9.2 2 0) = 3 then ((jGr_addParameter L (q9.2 2 0) a1 a2 q9.2).bind (fun q15 => some (q15.1, q15.2))) else none) else ((jX_refuse L (-204) q9.2).bind (fun q16 => some (q16.1, q16.2)))) else none) else none) else ((jX_refuse L (-203) q9.2).bind (fun q17 => some (q17.1, q17.2))))) else none) else none) else ((jX_refuse L (-202) q5.2).bind (fun q18 => some (q18.1, q18.2))))))) else none := by
  unfold jX_parameter
  refine q_s (pc' := 1) (ls' := [vR 2, vI a1, vI a2]) (st' := [vR 2]) (g' := g) k96_0 rfl rfl ?_
  refine q_getM (w := 0) (c := 3) (pc' := 4) rfl k96_1 rfl rfl rfl rfl rfl (fun h1 => ?_)
  refine q_s (pc' := 5) (ls' := [vR 2, vI a1, vI a2]) (st' := [vI a1, vR (g 2 0)]) (g' := g) k96_4 rfl rfl ?_
  refine q_callI (ls0 := [vR (g 2 0), vI a1]) (rest := []) (pc' := 8) rfl k96_5 rfl (hy4 rfl rfl (rcv0 rfl h1) rfl) rfl rfl hq_14 rfl (fun q2 => ?_)
  refine q_if (P := q2.1 = 0) (t := 18) (pc' := 11) k96_8 Iff.rfl rfl rfl (fun h3 => ?_) (fun h3 => ?_)
  · refine q_s (pc' := 19) (ls' := [vR 2, vI a1, vI a2]) (st' := [vR 2]) (g' := q2.2) k96_18 rfl rfl ?_
    refine q_s (pc' := 22) (ls' := [vR 2, vI a1, vI a2]) (st' := [vI (-202), vR 2]) (g' := q2.2) k96_19 rfl rfl ?_
    refine q_callI (ls0 := [vR 2, vI (-202)]) (rest := []) (pc' := 25) rfl k96_22 rfl (hy4 rfl rfl rfl rfl) rfl rfl hq_94 rfl (fun q4 => ?_)
    exact q_e k96_25 rfl rfl rfl
  · refine q_s (pc' := 12) (ls' := [vR 2, vI a1, vI a2]) (st' := [vI a2]) (g' := q2.2) k96_11 rfl rfl ?_
    refine q_callI (ls0 := [vI a2, vU, vU]) (rest := []) (pc' := 15) rfl k96_12 rfl (hy4 rfl rfl rfl rfl) rfl rfl hq_77 rfl (fun q5 => ?_)
    refine q_if (P := q5.1 ≠ 0) (t := 26) (pc' := 18) k96_15 Iff.rfl rfl rfl (fun h6 => ?_) (fun h6 => ?_)
    · refine q_s (pc' := 27) (ls' := [vR 2, vI a1, vI a2]) (st' := [vR 2]) (g' := q5.2) k96_26 rfl rfl ?_
      refine q_getM (w := 0) (c := 3) (pc' := 30) rfl k96_27 rfl rfl rfl rfl rfl (fun h7 => ?_)
      refine q_getF (r := q5.2 2 0 + 1) (pc' := 33) k96_30 h7 rfl (kG_f h7).1 rfl ?_
      refine q_s (pc' := 34) (ls' := [vR 2, vI a1, vI a2]) (st' := [vI a1, vR (q5.2 2 0 + 1)]) (g' := q5.2) k96_33 rfl rfl ?_
      refine q_aald (n := 10) (pc' := 35) rfl k96_34 (kG_f h7).2.2.1 rfl (q5.2 2 0 + 2 + 2 * a1) (fun h => (kG_b h7 h.1 h.2).1) (fun h8 => ?_)
      refine q_s (pc' := 36) (ls' := [vR 2, vI a1, vI a2]) (st' := [vI a2, vR (q5.2 2 0 + 2 + 2 * a1)]) (g' := q5.2) k96_35 rfl rfl ?_
      refine q_callI (ls0 := [vR (q5.2 2 0 + 2 + 2 * a1), vI a2, vU]) (rest := []) (pc' := 39) rfl k96_36 rfl (hy4 rfl rfl (rcv0 rfl (kG_b h7 h8.1 h8.2).2) rfl) rfl rfl hq_4 rfl (fun q9 => ?_)
      refine q_if (P := q9.1 ≠ 0) (t := 50) (pc' := 42) k96_39 Iff.rfl rfl rfl (fun h10 => ?_) (fun h10 => ?_)
      · refine q_s (pc' := 51) (ls' := [vR 2, vI a1, vI a2]) (st' := [vR 2]) (g' := q9.2) k96_50 rfl rfl ?_
        refine q_getM (w := 0) (c := 3) (pc' := 54) rfl k96_51 rfl rfl rfl rfl rfl (fun h11 => ?_)
        refine q_getF (r := q9.2 2 0 + 1) (pc' := 57) k96_54 h11 rfl (kG_f h11).1 rfl ?_
        refine q_s (pc' := 58) (ls' := [vR 2, vI a1, vI a2]) (st' := [vI a1, vR (q9.2 2 0 + 1)]) (g' := q9.2) k96_57 rfl rfl ?_
        refine q_aald (n := 10) (pc' := 59) rfl k96_58 (kG_f h11).2.2.1 rfl (q9.2 2 0 + 2 + 2 * a1) (fun h => (kG_b h11 h.1 h.2).1) (fun h12 => ?_)
        refine q_getI (w := 1) (pc' := 62) k96_59 (kG_b h11 h12.1 h12.2).2 rfl rfl rfl ?_
        refine q_s (pc' := 64) (ls' := [vR 2, vI a1, vI a2]) (st' := [vI 6, vI (q9.2 (q9.2 2 0 + 2 + 2 * a1) 1)]) (g' := q9.2) k96_62 rfl rfl ?_
        refine q_ic (P := q9.2 (q9.2 2 0 + 2 + 2 * a1) 1 < 6) (t := 75) (pc' := 67) k96_64 Iff.rfl rfl rfl (fun h13 => ?_) (fun h13 => ?_)
        · refine q_s (pc' := 76) (ls' := [vR 2, vI a1, vI a2]) (st' := [vR 2]) (g' := q9.2) k96_75 rfl rfl ?_
          refine q_getM (w := 0) (c := 3) (pc' := 79) rfl k96_76 rfl rfl rfl rfl rfl (fun h14 => ?_)
          refine q_s (pc' := 80) (ls' := [vR 2, vI a1, vI a2]) (st' := [vI a1, vR (q9.2 2 0)]) (g' := q9.2) k96_79 rfl rfl ?_
          refine q_s (pc' := 81) (ls' := [vR 2, vI a1, vI a2]) (st' := [vI a2, vI a1, vR (q9.2 2 0)]) (g' := q9.2) k96_80 rfl rfl ?_
          refine q_callI (ls0 := [vR (q9.2 2 0), vI a1, vI a2, vU, vU]) (rest := []) (pc' := 84) rfl k96_81 rfl (hy4 rfl rfl (rcv0 rfl h14) rfl) rfl rfl hq_18 rfl (fun q15 => ?_)
          exact q_e k96_84 rfl rfl rfl
        · refine q_s (pc' := 68) (ls' := [vR 2, vI a1, vI a2]) (st' := [vR 2]) (g' := q9.2) k96_67 rfl rfl ?_
          refine q_s (pc' := 71) (ls' := [vR 2, vI a1, vI a2]) (st' := [vI (-204), vR 2]) (g' := q9.2) k96_68 rfl rfl ?_
          refine q_callI (ls0 := [vR 2, vI (-204)]) (rest := []) (pc' := 74) rfl k96_71 rfl (hy4 rfl rfl rfl rfl) rfl rfl hq_94 rfl (fun q16 => ?_)
          exact q_e k96_74 rfl rfl rfl
      · refine q_s (pc' := 43) (ls' := [vR 2, vI a1, vI a2]) (st' := [vR 2]) (g' := q9.2) k96_42 rfl rfl ?_
        refine q_s (pc' := 46) (ls' := [vR 2, vI a1, vI a2]) (st' := [vI (-203), vR 2]) (g' := q9.2) k96_43 rfl rfl ?_
        refine q_callI (ls0 := [vR 2, vI (-203)]) (rest := []) (pc' := 49) rfl k96_46 rfl (hy4 rfl rfl rfl rfl) rfl rfl hq_94 rfl (fun q17 => ?_)
        exact q_e k96_49 rfl rfl rfl
    · refine q_s (pc' := 19) (ls' := [vR 2, vI a1, vI a2]) (st' := [vR 2]) (g' := q5.2) k96_18 rfl rfl ?_
      refine q_s (pc' := 22) (ls' := [vR 2, vI a1, vI a2]) (st' := [vI (-202), vR 2]) (g' := q5.2) k96_19 rfl rfl ?_
      refine q_callI (ls0 := [vR 2, vI (-202)]) (rest := []) (pc' := 25) rfl k96_22 rfl (hy4 rfl rfl rfl rfl) rfl rfl hq_94 rfl (fun q18 => ?_)
      exact q_e k96_25 rfl rfl rfl
set_option maxHeartbeats 4000000 in
theorem jX_edge_eq (L : Nat) (a1 : Int) (a2 : Int) (a3 : Int) (g : AMem) : jX_edge L a1 a2 a3 g = if kin (SH L) (g 2 0) = 3 then ((jGr_hasBlock L (g 2 0) a1 g).bind (fun q2 => if q2.1 = 0 then ((jX_refuse L (-202) q2.2).bind (fun q4 => some (q4.1, q4.2))) else (if kin (SH L) (q2.2 2 0) = 3 then ((jGr_hasBlock L (q2.2 2 0) a2 q2.2).bind (fun q6 => if q6.1 = 0 then ((jX_refuse L (-202) q6.2).bind (fun q8 => some (q8.1, q8.2))) else ((jX_isBelow L a3 100 q6.2).bind (fun q9 => if q9.1 ≠ 0 then (if kin (SH L) (q9.2 2 0) = 3 then (if q9.2 (q9.2 2 0) 3 < 16 then (if kin (SH L) (q9.2 2 0) = 3 then ((jGr_addEdge L (q9.2 2 0) a1 a2 a3 q9.2).bind (fun q14 => some (q14.1, q14.2))) else none) else ((jX_refuse L (-204) q9.2).bind (fun q15 => some (q15.1, q15.2)))) else none) else ((jX_refuse L (-202) q9.2).bind (fun q16 => some (q16.1, q16.2))))))) else none))) else none := by
  unfold jX_edge
  refine q_s (pc' := 1) (ls' := [vR 2, vI a1, vI a2, vI a3]) (st' := [vR 2]) (g' := g) k97_0 rfl rfl ?_
  refine q_getM (w := 0) (c := 3) (pc' := 4) rfl k97_1 rfl rfl rfl rfl rfl (fun h1 => ?_)
  refine q_s (pc' := 5) (ls' := [vR 2, vI a1, vI a2, vI a3]) (st' := [vI a1, vR (g 2 0)]) (g' := g) k97_4 rfl rfl ?_
  refine q_callI (ls0 := [vR (g 2 0), vI a1]) (rest := []) (pc' := 8) rfl k97_5 rfl (hy4 rfl rfl (rcv0 rfl h1) rfl) rfl rfl hq_14 rfl (fun q2 => ?_)
  refine q_if (P := q2.1 = 0) (t := 31) (pc' := 11) k97_8 Iff.rfl rfl rfl (fun h3 => ?_) (fun h3 => ?_)
  · refine q_s (pc' := 32) (ls' := [vR 2, vI a1, vI a2, vI a3]) (st' := [vR 2]) (g' := q2.2) k97_31 rfl rfl ?_
    refine q_s (pc' := 35) (ls' := [vR 2, vI a1, vI a2, vI a3]) (st' := [vI (-202), vR 2]) (g' := q2.2) k97_32 rfl rfl ?_
    refine q_callI (ls0 := [vR 2, vI (-202)]) (rest := []) (pc' := 38) rfl k97_35 rfl (hy4 rfl rfl rfl rfl) rfl rfl hq_94 rfl (fun q4 => ?_)
    exact q_e k97_38 rfl rfl rfl
  · refine q_s (pc' := 12) (ls' := [vR 2, vI a1, vI a2, vI a3]) (st' := [vR 2]) (g' := q2.2) k97_11 rfl rfl ?_
    refine q_getM (w := 0) (c := 3) (pc' := 15) rfl k97_12 rfl rfl rfl rfl rfl (fun h5 => ?_)
    refine q_s (pc' := 16) (ls' := [vR 2, vI a1, vI a2, vI a3]) (st' := [vI a2, vR (q2.2 2 0)]) (g' := q2.2) k97_15 rfl rfl ?_
    refine q_callI (ls0 := [vR (q2.2 2 0), vI a2]) (rest := []) (pc' := 19) rfl k97_16 rfl (hy4 rfl rfl (rcv0 rfl h5) rfl) rfl rfl hq_14 rfl (fun q6 => ?_)
    refine q_if (P := q6.1 = 0) (t := 31) (pc' := 22) k97_19 Iff.rfl rfl rfl (fun h7 => ?_) (fun h7 => ?_)
    · refine q_s (pc' := 32) (ls' := [vR 2, vI a1, vI a2, vI a3]) (st' := [vR 2]) (g' := q6.2) k97_31 rfl rfl ?_
      refine q_s (pc' := 35) (ls' := [vR 2, vI a1, vI a2, vI a3]) (st' := [vI (-202), vR 2]) (g' := q6.2) k97_32 rfl rfl ?_
      refine q_callI (ls0 := [vR 2, vI (-202)]) (rest := []) (pc' := 38) rfl k97_35 rfl (hy4 rfl rfl rfl rfl) rfl rfl hq_94 rfl (fun q8 => ?_)
      exact q_e k97_38 rfl rfl rfl
    · refine q_s (pc' := 23) (ls' := [vR 2, vI a1, vI a2, vI a3]) (st' := [vI a3]) (g' := q6.2) k97_22 rfl rfl ?_
      refine q_s (pc' := 25) (ls' := [vR 2, vI a1, vI a2, vI a3]) (st' := [vI 100, vI a3]) (g' := q6.2) k97_23 rfl rfl ?_
      refine q_callI (ls0 := [vI a3, vI 100]) (rest := []) (pc' := 28) rfl k97_25 rfl (hy4 rfl rfl rfl rfl) rfl rfl hq_13 rfl (fun q9 => ?_)
      refine q_if (P := q9.1 ≠ 0) (t := 39) (pc' := 31) k97_28 Iff.rfl rfl rfl (fun h10 => ?_) (fun h10 => ?_)
      · refine q_s (pc' := 40) (ls' := [vR 2, vI a1, vI a2, vI a3]) (st' := [vR 2]) (g' := q9.2) k97_39 rfl rfl ?_
        refine q_getM (w := 0) (c := 3) (pc' := 43) rfl k97_40 rfl rfl rfl rfl rfl (fun h11 => ?_)
        refine q_getI (w := 3) (pc' := 46) k97_43 h11 rfl rfl rfl ?_
        refine q_s (pc' := 48) (ls' := [vR 2, vI a1, vI a2, vI a3]) (st' := [vI 16, vI (q9.2 (q9.2 2 0) 3)]) (g' := q9.2) k97_46 rfl rfl ?_
        refine q_ic (P := q9.2 (q9.2 2 0) 3 < 16) (t := 59) (pc' := 51) k97_48 Iff.rfl rfl rfl (fun h12 => ?_) (fun h12 => ?_)
        · refine q_s (pc' := 60) (ls' := [vR 2, vI a1, vI a2, vI a3]) (st' := [vR 2]) (g' := q9.2) k97_59 rfl rfl ?_
          refine q_getM (w := 0) (c := 3) (pc' := 63) rfl k97_60 rfl rfl rfl rfl rfl (fun h13 => ?_)
          refine q_s (pc' := 64) (ls' := [vR 2, vI a1, vI a2, vI a3]) (st' := [vI a1, vR (q9.2 2 0)]) (g' := q9.2) k97_63 rfl rfl ?_
          refine q_s (pc' := 65) (ls' := [vR 2, vI a1, vI a2, vI a3]) (st' := [vI a2, vI a1, vR (q9.2 2 0)]) (g' := q9.2) k97_64 rfl rfl ?_
          refine q_s (pc' := 66) (ls' := [vR 2, vI a1, vI a2, vI a3]) (st' := [vI a3, vI a2, vI a1, vR (q9.2 2 0)]) (g' := q9.2) k97_65 rfl rfl ?_
          refine q_callI (ls0 := [vR (q9.2 2 0), vI a1, vI a2, vI a3, vU]) (rest := []) (pc' := 69) rfl k97_66 rfl (hy4 rfl rfl (rcv0 rfl h13) rfl) rfl rfl hq_19 rfl (fun q14 => ?_)
          exact q_e k97_69 rfl rfl rfl
        · refine q_s (pc' := 52) (ls' := [vR 2, vI a1, vI a2, vI a3]) (st' := [vR 2]) (g' := q9.2) k97_51 rfl rfl ?_
          refine q_s (pc' := 55) (ls' := [vR 2, vI a1, vI a2, vI a3]) (st' := [vI (-204), vR 2]) (g' := q9.2) k97_52 rfl rfl ?_
          refine q_callI (ls0 := [vR 2, vI (-204)]) (rest := []) (pc' := 58) rfl k97_55 rfl (hy4 rfl rfl rfl rfl) rfl rfl hq_94 rfl (fun q15 => ?_)
          exact q_e k97_58 rfl rfl rfl
      · refine q_s (pc' := 32) (ls' := [vR 2, vI a1, vI a2, vI a3]) (st' := [vR 2]) (g' := q9.2) k97_31 rfl rfl ?_
        refine q_s (pc' := 35) (ls' := [vR 2, vI a1, vI a2, vI a3]) (st' := [vI (-202), vR 2]) (g' := q9.2) k97_32 rfl rfl ?_
        refine q_callI (ls0 := [vR 2, vI (-202)]) (rest := []) (pc' := 38) rfl k97_35 rfl (hy4 rfl rfl rfl rfl) rfl rfl hq_94 rfl (fun q16 => ?_)
        exact q_e k97_38 rfl rfl rfl
set_option maxHeartbeats 4000000 in
theorem jX_argument_eq (L : Nat) (a1 : Int) (a2 : Int) (a3 : Int) (g : AMem) : jX_argument L a1 a2 a3 g = if kin (SH L) (g 2 0) = 3 then ((jGr_hasEdge L (g 2 0) a1 g).bind (fun q2 => if q2.1 = 0 then ((jX_refuse L (-202) q2.2).bind (fun q4 => some (q4.1, q4.2))) else (if kin (SH L) (q2.2 2 0) = 3 then (if 0 ≤ a1 ∧ a1 < 16 then (if 0 ≤ q2.2 (q2.2 2 0 + 23 + 2 * a1) 2 ∧ q2.2 (q2.2 2 0 + 23 + 2 * a1) 2 < 10 then ((jX_isBelow L a2 (q2.2 (q2.2 2 0 + 2 + 2 * (q2.2 (q2.2 2 0 + 23 + 2 * a1) 2)) 1) q2.2).bind (fun q9 => if q9.1 ≠ 0 then (if kin (SH L) (q9.2 2 0) = 3 then (if 0 ≤ a1 ∧ a1 < 16 then (if 0 ≤ q9.2 (q9.2 2 0 + 23 + 2 * a1) 2 ∧ q9.2 (q9.2 2 0 + 23 + 2 * a1) 2 < 10 then (if 0 ≤ a2 ∧ a2 < 6 then ((jRg_isArgumentFor L a3 (q9.2 (q9.2 2 0 + 2 + 2 * (q9.2 (q9.2 2 0 + 23 + 2 * a1) 2) + 1) a2) q9.2).bind (fun q16 => if q16.1 ≠ 0 then (if kin (SH L) (q16.2 2 0) = 3 then (if 0 ≤ a1 ∧ a1 < 16 then (if 0 ≤ a2 ∧ a2 < 6 then (if kin (SH L) (q16.2 2 0) = 3 then (if 0 ≤ a1 ∧ a1 < 16 then (if 0 ≤ a2 ∧ a2 < 6 then (some (q16.2 (q16.2 2 0 + 23 + 2 * a1 + 1) a2, up q16.2 (q16.2 2 0 + 23 + 2 * a1 + 1) a2 a3)) else none) else none) else none) else none) else none) else none) else ((jX_refuse L (-202) q16.2).bind (fun q24 => some (q24.1, q24.2))))) else none) else none) else none) else none) else ((jX_refuse L (-202) q9.2).bind (fun q25 => some (q25.1, q25.2))))) else none) else none) else none))) else none := by
  unfold jX_argument
  refine q_s (pc' := 1) (ls' := [vR 2, vI a1, vI a2, vI a3, vU]) (st' := [vR 2]) (g' := g) k98_0 rfl rfl ?_
  refine q_getM (w := 0) (c := 3) (pc' := 4) rfl k98_1 rfl rfl rfl rfl rfl (fun h1 => ?_)
  refine q_s (pc' := 5) (ls' := [vR 2, vI a1, vI a2, vI a3, vU]) (st' := [vI a1, vR (g 2 0)]) (g' := g) k98_4 rfl rfl ?_
  refine q_callI (ls0 := [vR (g 2 0), vI a1]) (rest := []) (pc' := 8) rfl k98_5 rfl (hy4 rfl rfl (rcv0 rfl h1) rfl) rfl rfl hq_15 rfl (fun q2 => ?_)
  refine q_if (P := q2.1 = 0) (t := 29) (pc' := 11) k98_8 Iff.rfl rfl rfl (fun h3 => ?_) (fun h3 => ?_)
  · refine q_s (pc' := 30) (ls' := [vR 2, vI a1, vI a2, vI a3, vU]) (st' := [vR 2]) (g' := q2.2) k98_29 rfl rfl ?_
    refine q_s (pc' := 33) (ls' := [vR 2, vI a1, vI a2, vI a3, vU]) (st' := [vI (-202), vR 2]) (g' := q2.2) k98_30 rfl rfl ?_
    refine q_callI (ls0 := [vR 2, vI (-202)]) (rest := []) (pc' := 36) rfl k98_33 rfl (hy4 rfl rfl rfl rfl) rfl rfl hq_94 rfl (fun q4 => ?_)
    exact q_e k98_36 rfl rfl rfl
  · refine q_s (pc' := 12) (ls' := [vR 2, vI a1, vI a2, vI a3, vU]) (st' := [vI a2]) (g' := q2.2) k98_11 rfl rfl ?_
    refine q_s (pc' := 13) (ls' := [vR 2, vI a1, vI a2, vI a3, vU]) (st' := [vR 2, vI a2]) (g' := q2.2) k98_12 rfl rfl ?_
    refine q_getM (w := 0) (c := 3) (pc' := 16) rfl k98_13 rfl rfl rfl rfl rfl (fun h5 => ?_)
    refine q_s (pc' := 17) (ls' := [vR 2, vI a1, vI a2, vI a3, vU]) (st' := [vI a1, vR (q2.2 2 0), vI a2]) (g' := q2.2) k98_16 rfl rfl ?_
    refine q_goal (t := q2.2 2 0) (e := a1) (pc' := 20) rfl k98_17 h5 rfl rfl (fun h7 h8 => ?_)
    refine q_getI (w := 1) (pc' := 23) k98_20 (kG_b h5 h8.1 h8.2).2 rfl rfl rfl ?_
    refine q_callI (ls0 := [vI a2, vI (q2.2 (q2.2 2 0 + 2 + 2 * (q2.2 (q2.2 2 0 + 23 + 2 * a1) 2)) 1)]) (rest := []) (pc' := 26) rfl k98_23 rfl (hy4 rfl rfl rfl rfl) rfl rfl hq_13 rfl (fun q9 => ?_)
    refine q_if (P := q9.1 ≠ 0) (t := 37) (pc' := 29) k98_26 Iff.rfl rfl rfl (fun h10 => ?_) (fun h10 => ?_)
    · refine q_s (pc' := 38) (ls' := [vR 2, vI a1, vI a2, vI a3, vU]) (st' := [vI a3]) (g' := q9.2) k98_37 rfl rfl ?_
      refine q_s (pc' := 39) (ls' := [vR 2, vI a1, vI a2, vI a3, vU]) (st' := [vR 2, vI a3]) (g' := q9.2) k98_38 rfl rfl ?_
      refine q_getM (w := 0) (c := 3) (pc' := 42) rfl k98_39 rfl rfl rfl rfl rfl (fun h11 => ?_)
      refine q_s (pc' := 43) (ls' := [vR 2, vI a1, vI a2, vI a3, vU]) (st' := [vI a1, vR (q9.2 2 0), vI a3]) (g' := q9.2) k98_42 rfl rfl ?_
      refine q_goal (t := q9.2 2 0) (e := a1) (pc' := 46) rfl k98_43 h11 rfl rfl (fun h13 h14 => ?_)
      refine q_getF (r := q9.2 2 0 + 2 + 2 * (q9.2 (q9.2 2 0 + 23 + 2 * a1) 2) + 1) (pc' := 49) k98_46 (kG_b h11 h14.1 h14.2).2 rfl (kB (kG_b h11 h14.1 h14.2).2).1 rfl ?_
      refine q_s (pc' := 50) (ls' := [vR 2, vI a1, vI a2, vI a3, vU]) (st' := [vI a2, vR (q9.2 2 0 + 2 + 2 * (q9.2 (q9.2 2 0 + 23 + 2 * a1) 2) + 1), vI a3]) (g' := q9.2) k98_49 rfl rfl ?_
      refine q_iald (n := 6) (pc' := 51) rfl k98_50 (kB (kG_b h11 h14.1 h14.2).2).2 rfl (fun h15 => ?_)
      refine q_callI (ls0 := [vI a3, vI (q9.2 (q9.2 2 0 + 2 + 2 * (q9.2 (q9.2 2 0 + 23 + 2 * a1) 2) + 1) a2)]) (rest := []) (pc' := 54) rfl k98_51 rfl (hy4 rfl rfl rfl rfl) rfl rfl hq_89 rfl (fun q16 => ?_)
      refine q_if (P := q16.1 ≠ 0) (t := 65) (pc' := 57) k98_54 Iff.rfl rfl rfl (fun h17 => ?_) (fun h17 => ?_)
      · refine q_s (pc' := 66) (ls' := [vR 2, vI a1, vI a2, vI a3, vU]) (st' := [vR 2]) (g' := q16.2) k98_65 rfl rfl ?_
        refine q_getM (w := 0) (c := 3) (pc' := 69) rfl k98_66 rfl rfl rfl rfl rfl (fun h18 => ?_)
        refine q_getF (r := q16.2 2 0 + 22) (pc' := 72) k98_69 h18 rfl (kG_f h18).2.1 rfl ?_
        refine q_s (pc' := 73) (ls' := [vR 2, vI a1, vI a2, vI a3, vU]) (st' := [vI a1, vR (q16.2 2 0 + 22)]) (g' := q16.2) k98_72 rfl rfl ?_
        refine q_aald (n := 16) (pc' := 74) rfl k98_73 (kG_f h18).2.2.2 rfl (q16.2 2 0 + 23 + 2 * a1) (fun h => (kG_e h18 h.1 h.2).1) (fun h19 => ?_)
        refine q_getF (r := q16.2 2 0 + 23 + 2 * a1 + 1) (pc' := 77) k98_74 (kG_e h18 h19.1 h19.2).2 rfl (kE (kG_e h18 h19.1 h19.2).2).1 rfl ?_
        refine q_s (pc' := 78) (ls' := [vR 2, vI a1, vI a2, vI a3, vU]) (st' := [vI a2, vR (q16.2 2 0 + 23 + 2 * a1 + 1)]) (g' := q16.2) k98_77 rfl rfl ?_
        refine q_iald (n := 6) (pc' := 79) rfl k98_78 (kE (kG_e h18 h19.1 h19.2).2).2 rfl (fun h20 => ?_)
        refine q_s (pc' := 81) (ls' := [vR 2, vI a1, vI a2, vI a3, vI (q16.2 (q16.2 2 0 + 23 + 2 * a1 + 1) a2)]) (st' := []) (g' := q16.2) k98_79 rfl rfl ?_
        refine q_s (pc' := 82) (ls' := [vR 2, vI a1, vI a2, vI a3, vI (q16.2 (q16.2 2 0 + 23 + 2 * a1 + 1) a2)]) (st' := [vR 2]) (g' := q16.2) k98_81 rfl rfl ?_
        refine q_getM (w := 0) (c := 3) (pc' := 85) rfl k98_82 rfl rfl rfl rfl rfl (fun h21 => ?_)
        refine q_getF (r := q16.2 2 0 + 22) (pc' := 88) k98_85 h21 rfl (kG_f h21).2.1 rfl ?_
        refine q_s (pc' := 89) (ls' := [vR 2, vI a1, vI a2, vI a3, vI (q16.2 (q16.2 2 0 + 23 + 2 * a1 + 1) a2)]) (st' := [vI a1, vR (q16.2 2 0 + 22)]) (g' := q16.2) k98_88 rfl rfl ?_
        refine q_aald (n := 16) (pc' := 90) rfl k98_89 (kG_f h21).2.2.2 rfl (q16.2 2 0 + 23 + 2 * a1) (fun h => (kG_e h21 h.1 h.2).1) (fun h22 => ?_)
        refine q_getF (r := q16.2 2 0 + 23 + 2 * a1 + 1) (pc' := 93) k98_90 (kG_e h21 h22.1 h22.2).2 rfl (kE (kG_e h21 h22.1 h22.2).2).1 rfl ?_
        refine q_s (pc' := 94) (ls' := [vR 2, vI a1, vI a2, vI a3, vI (q16.2 (q16.2 2 0 + 23 + 2 * a1 + 1) a2)]) (st' := [vI a2, vR (q16.2 2 0 + 23 + 2 * a1 + 1)]) (g' := q16.2) k98_93 rfl rfl ?_
        refine q_s (pc' := 95) (ls' := [vR 2, vI a1, vI a2, vI a3, vI (q16.2 (q16.2 2 0 + 23 + 2 * a1 + 1) a2)]) (st' := [vI a3, vI a2, vR (q16.2 2 0 + 23 + 2 * a1 + 1)]) (g' := q16.2) k98_94 rfl rfl ?_
        refine q_iast (n := 6) (pc' := 96) rfl k98_95 (kE (kG_e h21 h22.1 h22.2).2).2 (by have := k2 (kG_e h21 h22.1 h22.2).2 (by decide); omega) rfl (fun h23 => ?_)
        refine q_s (pc' := 98) (ls' := [vR 2, vI a1, vI a2, vI a3, vI (q16.2 (q16.2 2 0 + 23 + 2 * a1 + 1) a2)]) (st' := [vI (q16.2 (q16.2 2 0 + 23 + 2 * a1 + 1) a2)]) (g' := up q16.2 (q16.2 2 0 + 23 + 2 * a1 + 1) a2 a3) k98_96 rfl rfl ?_
        exact q_e k98_98 rfl rfl rfl
      · refine q_s (pc' := 58) (ls' := [vR 2, vI a1, vI a2, vI a3, vU]) (st' := [vR 2]) (g' := q16.2) k98_57 rfl rfl ?_
        refine q_s (pc' := 61) (ls' := [vR 2, vI a1, vI a2, vI a3, vU]) (st' := [vI (-202), vR 2]) (g' := q16.2) k98_58 rfl rfl ?_
        refine q_callI (ls0 := [vR 2, vI (-202)]) (rest := []) (pc' := 64) rfl k98_61 rfl (hy4 rfl rfl rfl rfl) rfl rfl hq_94 rfl (fun q24 => ?_)
        exact q_e k98_64 rfl rfl rfl
    · refine q_s (pc' := 30) (ls' := [vR 2, vI a1, vI a2, vI a3, vU]) (st' := [vR 2]) (g' := q9.2) k98_29 rfl rfl ?_
      refine q_s (pc' := 33) (ls' := [vR 2, vI a1, vI a2, vI a3, vU]) (st' := [vI (-202), vR 2]) (g' := q9.2) k98_30 rfl rfl ?_
      refine q_callI (ls0 := [vR 2, vI (-202)]) (rest := []) (pc' := 36) rfl k98_33 rfl (hy4 rfl rfl rfl rfl) rfl rfl hq_94 rfl (fun q25 => ?_)
      exact q_e k98_36 rfl rfl rfl
set_option maxHeartbeats 4000000 in
theorem jX_weight_eq (L : Nat) (a1 : Int) (a2 : Int) (g : AMem) : jX_weight L a1 a2 g = if kin (SH L) (g 2 0) = 3 then ((jGr_hasEdge L (g 2 0) a1 g).bind (fun q2 => if q2.1 = 0 then ((jX_refuse L (-202) q2.2).bind (fun q4 => some (q4.1, q4.2))) else ((jX_isBelow L a2 100 q2.2).bind (fun q5 => if q5.1 ≠ 0 then (if kin (SH L) (q5.2 2 0) = 3 then (if 0 ≤ a1 ∧ a1 < 16 then (if kin (SH L) (q5.2 2 0) = 3 then (if 0 ≤ a1 ∧ a1 < 16 then (some (q5.2 (q5.2 2 0 + 23 + 2 * a1) 3, up q5.2 (q5.2 2 0 + 23 + 2 * a1) 3 a2)) else none) else none) else none) else none) else ((jX_refuse L (-202) q5.2).bind (fun q11 => some (q11.1, q11.2))))))) else none := by
  unfold jX_weight
  refine q_s (pc' := 1) (ls' := [vR 2, vI a1, vI a2, vU]) (st' := [vR 2]) (g' := g) k99_0 rfl rfl ?_
  refine q_getM (w := 0) (c := 3) (pc' := 4) rfl k99_1 rfl rfl rfl rfl rfl (fun h1 => ?_)
  refine q_s (pc' := 5) (ls' := [vR 2, vI a1, vI a2, vU]) (st' := [vI a1, vR (g 2 0)]) (g' := g) k99_4 rfl rfl ?_
  refine q_callI (ls0 := [vR (g 2 0), vI a1]) (rest := []) (pc' := 8) rfl k99_5 rfl (hy4 rfl rfl (rcv0 rfl h1) rfl) rfl rfl hq_15 rfl (fun q2 => ?_)
  refine q_if (P := q2.1 = 0) (t := 20) (pc' := 11) k99_8 Iff.rfl rfl rfl (fun h3 => ?_) (fun h3 => ?_)
  · refine q_s (pc' := 21) (ls' := [vR 2, vI a1, vI a2, vU]) (st' := [vR 2]) (g' := q2.2) k99_20 rfl rfl ?_
    refine q_s (pc' := 24) (ls' := [vR 2, vI a1, vI a2, vU]) (st' := [vI (-202), vR 2]) (g' := q2.2) k99_21 rfl rfl ?_
    refine q_callI (ls0 := [vR 2, vI (-202)]) (rest := []) (pc' := 27) rfl k99_24 rfl (hy4 rfl rfl rfl rfl) rfl rfl hq_94 rfl (fun q4 => ?_)
    exact q_e k99_27 rfl rfl rfl
  · refine q_s (pc' := 12) (ls' := [vR 2, vI a1, vI a2, vU]) (st' := [vI a2]) (g' := q2.2) k99_11 rfl rfl ?_
    refine q_s (pc' := 14) (ls' := [vR 2, vI a1, vI a2, vU]) (st' := [vI 100, vI a2]) (g' := q2.2) k99_12 rfl rfl ?_
    refine q_callI (ls0 := [vI a2, vI 100]) (rest := []) (pc' := 17) rfl k99_14 rfl (hy4 rfl rfl rfl rfl) rfl rfl hq_13 rfl (fun q5 => ?_)
    refine q_if (P := q5.1 ≠ 0) (t := 28) (pc' := 20) k99_17 Iff.rfl rfl rfl (fun h6 => ?_) (fun h6 => ?_)
    · refine q_s (pc' := 29) (ls' := [vR 2, vI a1, vI a2, vU]) (st' := [vR 2]) (g' := q5.2) k99_28 rfl rfl ?_
      refine q_getM (w := 0) (c := 3) (pc' := 32) rfl k99_29 rfl rfl rfl rfl rfl (fun h7 => ?_)
      refine q_getF (r := q5.2 2 0 + 22) (pc' := 35) k99_32 h7 rfl (kG_f h7).2.1 rfl ?_
      refine q_s (pc' := 36) (ls' := [vR 2, vI a1, vI a2, vU]) (st' := [vI a1, vR (q5.2 2 0 + 22)]) (g' := q5.2) k99_35 rfl rfl ?_
      refine q_aald (n := 16) (pc' := 37) rfl k99_36 (kG_f h7).2.2.2 rfl (q5.2 2 0 + 23 + 2 * a1) (fun h => (kG_e h7 h.1 h.2).1) (fun h8 => ?_)
      refine q_getI (w := 3) (pc' := 40) k99_37 (kG_e h7 h8.1 h8.2).2 rfl rfl rfl ?_
      refine q_s (pc' := 41) (ls' := [vR 2, vI a1, vI a2, vI (q5.2 (q5.2 2 0 + 23 + 2 * a1) 3)]) (st' := []) (g' := q5.2) k99_40 rfl rfl ?_
      refine q_s (pc' := 42) (ls' := [vR 2, vI a1, vI a2, vI (q5.2 (q5.2 2 0 + 23 + 2 * a1) 3)]) (st' := [vR 2]) (g' := q5.2) k99_41 rfl rfl ?_
      refine q_getM (w := 0) (c := 3) (pc' := 45) rfl k99_42 rfl rfl rfl rfl rfl (fun h9 => ?_)
      refine q_getF (r := q5.2 2 0 + 22) (pc' := 48) k99_45 h9 rfl (kG_f h9).2.1 rfl ?_
      refine q_s (pc' := 49) (ls' := [vR 2, vI a1, vI a2, vI (q5.2 (q5.2 2 0 + 23 + 2 * a1) 3)]) (st' := [vI a1, vR (q5.2 2 0 + 22)]) (g' := q5.2) k99_48 rfl rfl ?_
      refine q_aald (n := 16) (pc' := 50) rfl k99_49 (kG_f h9).2.2.2 rfl (q5.2 2 0 + 23 + 2 * a1) (fun h => (kG_e h9 h.1 h.2).1) (fun h10 => ?_)
      refine q_s (pc' := 51) (ls' := [vR 2, vI a1, vI a2, vI (q5.2 (q5.2 2 0 + 23 + 2 * a1) 3)]) (st' := [vI a2, vR (q5.2 2 0 + 23 + 2 * a1)]) (g' := q5.2) k99_50 rfl rfl ?_
      refine q_putI (w := 3) (pc' := 54) k99_51 (kG_e h9 h10.1 h10.2).2 rfl rfl rfl ?_
      refine q_s (pc' := 55) (ls' := [vR 2, vI a1, vI a2, vI (q5.2 (q5.2 2 0 + 23 + 2 * a1) 3)]) (st' := [vI (q5.2 (q5.2 2 0 + 23 + 2 * a1) 3)]) (g' := up q5.2 (q5.2 2 0 + 23 + 2 * a1) 3 a2) k99_54 rfl rfl ?_
      exact q_e k99_55 rfl rfl rfl
    · refine q_s (pc' := 21) (ls' := [vR 2, vI a1, vI a2, vU]) (st' := [vR 2]) (g' := q5.2) k99_20 rfl rfl ?_
      refine q_s (pc' := 24) (ls' := [vR 2, vI a1, vI a2, vU]) (st' := [vI (-202), vR 2]) (g' := q5.2) k99_21 rfl rfl ?_
      refine q_callI (ls0 := [vR 2, vI (-202)]) (rest := []) (pc' := 27) rfl k99_24 rfl (hy4 rfl rfl rfl rfl) rfl rfl hq_94 rfl (fun q11 => ?_)
      exact q_e k99_27 rfl rfl rfl
set_option maxHeartbeats 4000000 in
theorem jX_machine_eq (L : Nat) (a1 : Int) (g : AMem) : jX_machine L a1 g = (jX_isBelow L a1 5 g).bind (fun q1 => if q1.1 ≠ 0 then (some (q1.2 2 10, up q1.2 2 10 a1)) else ((jX_refuse L (-202) q1.2).bind (fun q3 => some (q3.1, q3.2)))) := by
  unfold jX_machine
  refine q_s (pc' := 1) (ls' := [vR 2, vI a1, vU]) (st' := [vI a1]) (g' := g) k100_0 rfl rfl ?_
  refine q_s (pc' := 2) (ls' := [vR 2, vI a1, vU]) (st' := [vI 5, vI a1]) (g' := g) k100_1 rfl rfl ?_
  refine q_callI (ls0 := [vI a1, vI 5]) (rest := []) (pc' := 5) rfl k100_2 rfl (hy4 rfl rfl rfl rfl) rfl rfl hq_13 rfl (fun q1 => ?_)
  refine q_if (P := q1.1 ≠ 0) (t := 16) (pc' := 8) k100_5 Iff.rfl rfl rfl (fun h2 => ?_) (fun h2 => ?_)
  · refine q_s (pc' := 17) (ls' := [vR 2, vI a1, vU]) (st' := [vR 2]) (g' := q1.2) k100_16 rfl rfl ?_
    refine q_getI (w := 10) (pc' := 20) k100_17 rfl rfl rfl rfl ?_
    refine q_s (pc' := 21) (ls' := [vR 2, vI a1, vI (q1.2 2 10)]) (st' := []) (g' := q1.2) k100_20 rfl rfl ?_
    refine q_s (pc' := 22) (ls' := [vR 2, vI a1, vI (q1.2 2 10)]) (st' := [vR 2]) (g' := q1.2) k100_21 rfl rfl ?_
    refine q_s (pc' := 23) (ls' := [vR 2, vI a1, vI (q1.2 2 10)]) (st' := [vI a1, vR 2]) (g' := q1.2) k100_22 rfl rfl ?_
    refine q_putI (w := 10) (pc' := 26) k100_23 rfl rfl rfl rfl ?_
    refine q_s (pc' := 27) (ls' := [vR 2, vI a1, vI (q1.2 2 10)]) (st' := [vI (q1.2 2 10)]) (g' := up q1.2 2 10 a1) k100_26 rfl rfl ?_
    exact q_e k100_27 rfl rfl rfl
  · refine q_s (pc' := 9) (ls' := [vR 2, vI a1, vU]) (st' := [vR 2]) (g' := q1.2) k100_8 rfl rfl ?_
    refine q_s (pc' := 12) (ls' := [vR 2, vI a1, vU]) (st' := [vI (-202), vR 2]) (g' := q1.2) k100_9 rfl rfl ?_
    refine q_callI (ls0 := [vR 2, vI (-202)]) (rest := []) (pc' := 15) rfl k100_12 rfl (hy4 rfl rfl rfl rfl) rfl rfl hq_94 rfl (fun q3 => ?_)
    exact q_e k100_15 rfl rfl rfl
set_option maxHeartbeats 4000000 in
theorem jX_isClear_eq (L : Nat) (a1 : Int) (g : AMem) : jX_isClear L a1 g = if kin (SH L) (g 2 0) = 3 then (if 0 ≤ a1 ∧ a1 < 16 then (if 0 ≤ g (g 2 0 + 23 + 2 * a1) 2 ∧ g (g 2 0 + 23 + 2 * a1) 2 < 10 then (if kin (SH L) (g 2 0) = 3 then (if 0 ≤ a1 ∧ a1 < 16 then ((jHo_look L (g 2 0 + 2 + 2 * (g (g 2 0 + 23 + 2 * a1) 2)) (g 2 0 + 23 + 2 * a1) g).bind (fun q7 => (jHo_isClear L q7).bind (fun q8 => if q8.1 = 0 ∨ q8.1 = 1 then some (q8.1, q8.2) else none))) else none) else none) else none) else none) else none := by
  unfold jX_isClear
  refine q_s (pc' := 1) (ls' := [vR 2, vI a1]) (st' := [vR 2]) (g' := g) k101_0 rfl rfl ?_
  refine q_getF (r := 116) (pc' := 4) k101_1 rfl rfl rfl rfl ?_
  refine q_s (pc' := 5) (ls' := [vR 2, vI a1]) (st' := [vR 2, vR 116]) (g' := g) k101_4 rfl rfl ?_
  refine q_getM (w := 0) (c := 3) (pc' := 8) rfl k101_5 rfl rfl rfl rfl rfl (fun h1 => ?_)
  refine q_s (pc' := 9) (ls' := [vR 2, vI a1]) (st' := [vI a1, vR (g 2 0), vR 116]) (g' := g) k101_8 rfl rfl ?_
  refine q_goal (t := g 2 0) (e := a1) (pc' := 12) rfl k101_9 h1 rfl rfl (fun h3 h4 => ?_)
  refine q_s (pc' := 13) (ls' := [vR 2, vI a1]) (st' := [vR 2, vR (g 2 0 + 2 + 2 * (g (g 2 0 + 23 + 2 * a1) 2)), vR 116]) (g' := g) k101_12 rfl rfl ?_
  refine q_getM (w := 0) (c := 3) (pc' := 16) rfl k101_13 rfl rfl rfl rfl rfl (fun h5 => ?_)
  refine q_getF (r := g 2 0 + 22) (pc' := 19) k101_16 h5 rfl (kG_f h5).2.1 rfl ?_
  refine q_s (pc' := 20) (ls' := [vR 2, vI a1]) (st' := [vI a1, vR (g 2 0 + 22), vR (g 2 0 + 2 + 2 * (g (g 2 0 + 23 + 2 * a1) 2)), vR 116]) (g' := g) k101_19 rfl rfl ?_
  refine q_aald (n := 16) (pc' := 21) rfl k101_20 (kG_f h5).2.2.2 rfl (g 2 0 + 23 + 2 * a1) (fun h => (kG_e h5 h.1 h.2).1) (fun h6 => ?_)
  refine q_callV (ls0 := [vR 116, vR (g 2 0 + 2 + 2 * (g (g 2 0 + 23 + 2 * a1) 2)), vR (g 2 0 + 23 + 2 * a1)]) (rest := []) (pc' := 24) rfl k101_21 rfl (hy4 rfl rfl rfl rfl) rfl rfl hq_24 rfl (fun q7 => ?_)
  refine q_s (pc' := 25) (ls' := [vR 2, vI a1]) (st' := [vR 2]) (g' := q7) k101_24 rfl rfl ?_
  refine q_getF (r := 116) (pc' := 28) k101_25 rfl rfl rfl rfl ?_
  refine q_callI (ls0 := [vR 116, vU, vU, vU, vU]) (rest := []) (pc' := 31) rfl k101_28 rfl (hy4 rfl rfl rfl rfl) rfl rfl hq_29 rfl (fun q8 => ?_)
  exact q_eb rfl k101_31 rfl rfl
set_option maxHeartbeats 4000000 in
theorem jX_of_eq (L : Nat) (a1 : Int) (a2 : Int) (g : AMem) : jX_of L a1 a2 g = if kin (SH L) (g 2 0) = 3 then ((jGr_hasEdge L (g 2 0) a1 g).bind (fun q2 => if q2.1 = 0 then ((jX_refuse L (-202) q2.2).bind (fun q4 => some (q4.1, q4.2))) else ((jX_isBelow L a2 5 q2.2).bind (fun q5 => if q5.1 ≠ 0 then (if a2 = 0 then (if kin (SH L) (q5.2 2 0) = 3 then (if 0 ≤ a1 ∧ a1 < 16 then (some (q5.2 (q5.2 2 0 + 23 + 2 * a1) 1, q5.2)) else none) else none) else (if a2 = 1 then (if kin (SH L) (q5.2 2 0) = 3 then (if 0 ≤ a1 ∧ a1 < 16 then (some (q5.2 (q5.2 2 0 + 23 + 2 * a1) 2, q5.2)) else none) else none) else (if a2 = 2 then (if kin (SH L) (q5.2 2 0) = 3 then (if 0 ≤ a1 ∧ a1 < 16 then (some (q5.2 (q5.2 2 0 + 23 + 2 * a1) 3, q5.2)) else none) else none) else (if a2 = 3 then ((jX_isClear L a1 q5.2).bind (fun q17 => if q17.1 = 0 then (some (0, q17.2)) else (some (1, q17.2)))) else (if kin (SH L) (q5.2 2 0) = 3 then ((jGr_whereStepsGo L (q5.2 2 0) a1 q5.2).bind (fun q20 => some (q20.1, q20.2))) else none))))) else ((jX_refuse L (-202) q5.2).bind (fun q21 => some (q21.1, q21.2))))))) else none := by
  unfold jX_of
  refine q_s (pc' := 1) (ls' := [vR 2, vI a1, vI a2]) (st' := [vR 2]) (g' := g) k102_0 rfl rfl ?_
  refine q_getM (w := 0) (c := 3) (pc' := 4) rfl k102_1 rfl rfl rfl rfl rfl (fun h1 => ?_)
  refine q_s (pc' := 5) (ls' := [vR 2, vI a1, vI a2]) (st' := [vI a1, vR (g 2 0)]) (g' := g) k102_4 rfl rfl ?_
  refine q_callI (ls0 := [vR (g 2 0), vI a1]) (rest := []) (pc' := 8) rfl k102_5 rfl (hy4 rfl rfl (rcv0 rfl h1) rfl) rfl rfl hq_15 rfl (fun q2 => ?_)
  refine q_if (P := q2.1 = 0) (t := 19) (pc' := 11) k102_8 Iff.rfl rfl rfl (fun h3 => ?_) (fun h3 => ?_)
  · refine q_s (pc' := 20) (ls' := [vR 2, vI a1, vI a2]) (st' := [vR 2]) (g' := q2.2) k102_19 rfl rfl ?_
    refine q_s (pc' := 23) (ls' := [vR 2, vI a1, vI a2]) (st' := [vI (-202), vR 2]) (g' := q2.2) k102_20 rfl rfl ?_
    refine q_callI (ls0 := [vR 2, vI (-202)]) (rest := []) (pc' := 26) rfl k102_23 rfl (hy4 rfl rfl rfl rfl) rfl rfl hq_94 rfl (fun q4 => ?_)
    exact q_e k102_26 rfl rfl rfl
  · refine q_s (pc' := 12) (ls' := [vR 2, vI a1, vI a2]) (st' := [vI a2]) (g' := q2.2) k102_11 rfl rfl ?_
    refine q_s (pc' := 13) (ls' := [vR 2, vI a1, vI a2]) (st' := [vI 5, vI a2]) (g' := q2.2) k102_12 rfl rfl ?_
    refine q_callI (ls0 := [vI a2, vI 5]) (rest := []) (pc' := 16) rfl k102_13 rfl (hy4 rfl rfl rfl rfl) rfl rfl hq_13 rfl (fun q5 => ?_)
    refine q_if (P := q5.1 ≠ 0) (t := 27) (pc' := 19) k102_16 Iff.rfl rfl rfl (fun h6 => ?_) (fun h6 => ?_)
    · refine q_s (pc' := 28) (ls' := [vR 2, vI a1, vI a2]) (st' := [vI a2]) (g' := q5.2) k102_27 rfl rfl ?_
      refine q_by (P := a2 = 0) (fun h7 => ?_) (fun h7 => ?_)
      · refine q_s (pc' := 60) (ls' := [vR 2, vI a1, vI a2]) (st' := []) (g' := q5.2) k102_28 rfl (e_top h7 rfl) ?_
        refine q_s (pc' := 61) (ls' := [vR 2, vI a1, vI a2]) (st' := [vR 2]) (g' := q5.2) k102_60 rfl rfl ?_
        refine q_getM (w := 0) (c := 3) (pc' := 64) rfl k102_61 rfl rfl rfl rfl rfl (fun h8 => ?_)
        refine q_getF (r := q5.2 2 0 + 22) (pc' := 67) k102_64 h8 rfl (kG_f h8).2.1 rfl ?_
        refine q_s (pc' := 68) (ls' := [vR 2, vI a1, vI a2]) (st' := [vI a1, vR (q5.2 2 0 + 22)]) (g' := q5.2) k102_67 rfl rfl ?_
        refine q_aald (n := 16) (pc' := 69) rfl k102_68 (kG_f h8).2.2.2 rfl (q5.2 2 0 + 23 + 2 * a1) (fun h => (kG_e h8 h.1 h.2).1) (fun h9 => ?_)
        refine q_getI (w := 1) (pc' := 72) k102_69 (kG_e h8 h9.1 h9.2).2 rfl rfl rfl ?_
        exact q_e k102_72 rfl rfl rfl
      · skip
        refine q_by (P := a2 = 1) (fun h10 => ?_) (fun h10 => ?_)
        · refine q_s (pc' := 73) (ls' := [vR 2, vI a1, vI a2]) (st' := []) (g' := q5.2) k102_28 rfl (e_top h10 rfl) ?_
          refine q_s (pc' := 74) (ls' := [vR 2, vI a1, vI a2]) (st' := [vR 2]) (g' := q5.2) k102_73 rfl rfl ?_
          refine q_getM (w := 0) (c := 3) (pc' := 77) rfl k102_74 rfl rfl rfl rfl rfl (fun h11 => ?_)
          refine q_getF (r := q5.2 2 0 + 22) (pc' := 80) k102_77 h11 rfl (kG_f h11).2.1 rfl ?_
          refine q_s (pc' := 81) (ls' := [vR 2, vI a1, vI a2]) (st' := [vI a1, vR (q5.2 2 0 + 22)]) (g' := q5.2) k102_80 rfl rfl ?_
          refine q_aald (n := 16) (pc' := 82) rfl k102_81 (kG_f h11).2.2.2 rfl (q5.2 2 0 + 23 + 2 * a1) (fun h => (kG_e h11 h.1 h.2).1) (fun h12 => ?_)
          refine q_getI (w := 2) (pc' := 85) k102_82 (kG_e h11 h12.1 h12.2).2 rfl rfl rfl ?_
          exact q_e k102_85 rfl rfl rfl
        · skip
          refine q_by (P := a2 = 2) (fun h13 => ?_) (fun h13 => ?_)
          · refine q_s (pc' := 86) (ls' := [vR 2, vI a1, vI a2]) (st' := []) (g' := q5.2) k102_28 rfl (e_top h13 rfl) ?_
            refine q_s (pc' := 87) (ls' := [vR 2, vI a1, vI a2]) (st' := [vR 2]) (g' := q5.2) k102_86 rfl rfl ?_
            refine q_getM (w := 0) (c := 3) (pc' := 90) rfl k102_87 rfl rfl rfl rfl rfl (fun h14 => ?_)
            refine q_getF (r := q5.2 2 0 + 22) (pc' := 93) k102_90 h14 rfl (kG_f h14).2.1 rfl ?_
            refine q_s (pc' := 94) (ls' := [vR 2, vI a1, vI a2]) (st' := [vI a1, vR (q5.2 2 0 + 22)]) (g' := q5.2) k102_93 rfl rfl ?_
            refine q_aald (n := 16) (pc' := 95) rfl k102_94 (kG_f h14).2.2.2 rfl (q5.2 2 0 + 23 + 2 * a1) (fun h => (kG_e h14 h.1 h.2).1) (fun h15 => ?_)
            refine q_getI (w := 3) (pc' := 98) k102_95 (kG_e h14 h15.1 h15.2).2 rfl rfl rfl ?_
            exact q_e k102_98 rfl rfl rfl
          · skip
            refine q_by (P := a2 = 3) (fun h16 => ?_) (fun h16 => ?_)
            · refine q_s (pc' := 99) (ls' := [vR 2, vI a1, vI a2]) (st' := []) (g' := q5.2) k102_28 rfl (e_top h16 rfl) ?_
              refine q_s (pc' := 100) (ls' := [vR 2, vI a1, vI a2]) (st' := [vR 2]) (g' := q5.2) k102_99 rfl rfl ?_
              refine q_s (pc' := 101) (ls' := [vR 2, vI a1, vI a2]) (st' := [vI a1, vR 2]) (g' := q5.2) k102_100 rfl rfl ?_
              refine q_callI (ls0 := [vR 2, vI a1]) (rest := []) (pc' := 104) rfl k102_101 rfl (hy4 rfl rfl rfl rfl) rfl rfl hq_101 rfl (fun q17 => ?_)
              refine q_if (P := q17.1 = 0) (t := 111) (pc' := 107) k102_104 Iff.rfl rfl rfl (fun h18 => ?_) (fun h18 => ?_)
              · refine q_s (pc' := 112) (ls' := [vR 2, vI a1, vI a2]) (st' := [vI 0]) (g' := q17.2) k102_111 rfl rfl ?_
                exact q_e k102_112 rfl rfl rfl
              · refine q_s (pc' := 108) (ls' := [vR 2, vI a1, vI a2]) (st' := [vI 1]) (g' := q17.2) k102_107 rfl rfl ?_
                refine q_s (pc' := 112) (ls' := [vR 2, vI a1, vI a2]) (st' := [vI 1]) (g' := q17.2) k102_108 rfl rfl ?_
                exact q_e k102_112 rfl rfl rfl
            · skip
              refine q_s (pc' := 113) (ls' := [vR 2, vI a1, vI a2]) (st' := []) (g' := q5.2) k102_28 rfl (e_tsw (by omega) (by decide)) ?_
              refine q_s (pc' := 114) (ls' := [vR 2, vI a1, vI a2]) (st' := [vR 2]) (g' := q5.2) k102_113 rfl rfl ?_
              refine q_getM (w := 0) (c := 3) (pc' := 117) rfl k102_114 rfl rfl rfl rfl rfl (fun h19 => ?_)
              refine q_s (pc' := 118) (ls' := [vR 2, vI a1, vI a2]) (st' := [vI a1, vR (q5.2 2 0)]) (g' := q5.2) k102_117 rfl rfl ?_
              refine q_callI (ls0 := [vR (q5.2 2 0), vI a1]) (rest := []) (pc' := 121) rfl k102_118 rfl (hy4 rfl rfl (rcv0 rfl h19) rfl) rfl rfl hq_22 rfl (fun q20 => ?_)
              exact q_e k102_121 rfl rfl rfl
    · refine q_s (pc' := 20) (ls' := [vR 2, vI a1, vI a2]) (st' := [vR 2]) (g' := q5.2) k102_19 rfl rfl ?_
      refine q_s (pc' := 23) (ls' := [vR 2, vI a1, vI a2]) (st' := [vI (-202), vR 2]) (g' := q5.2) k102_20 rfl rfl ?_
      refine q_callI (ls0 := [vR 2, vI (-202)]) (rest := []) (pc' := 26) rfl k102_23 rfl (hy4 rfl rfl rfl rfl) rfl rfl hq_94 rfl (fun q21 => ?_)
      exact q_e k102_26 rfl rfl rfl
set_option maxHeartbeats 4000000 in
theorem jX_about_eq (L : Nat) (a1 : Int) (a2 : Int) (g : AMem) : jX_about L a1 a2 g = if kin (SH L) (g 2 0) = 3 then ((jGr_hasBlock L (g 2 0) a1 g).bind (fun q2 => if q2.1 = 0 then ((jX_refuse L (-202) q2.2).bind (fun q4 => some (q4.1, q4.2))) else ((jX_isBelow L a2 3 q2.2).bind (fun q5 => if q5.1 ≠ 0 then (if a2 = 0 then (if kin (SH L) (q5.2 2 0) = 3 then (if 0 ≤ a1 ∧ a1 < 10 then (some (q5.2 (q5.2 2 0 + 2 + 2 * a1) 1, q5.2)) else none) else none) else (if a2 = 1 then (if kin (SH L) (q5.2 2 0) = 3 then ((jGr_countFrom L (q5.2 2 0) a1 q5.2).bind (fun q12 => some (q12.1, q12.2))) else none) else (if kin (SH L) (q5.2 2 0) = 3 then ((jGr_countTo L (q5.2 2 0) a1 q5.2).bind (fun q14 => some (q14.1, q14.2))) else none))) else ((jX_refuse L (-202) q5.2).bind (fun q15 => some (q15.1, q15.2))))))) else none := by
  unfold jX_about
  refine q_s (pc' := 1) (ls' := [vR 2, vI a1, vI a2]) (st' := [vR 2]) (g' := g) k103_0 rfl rfl ?_
  refine q_getM (w := 0) (c := 3) (pc' := 4) rfl k103_1 rfl rfl rfl rfl rfl (fun h1 => ?_)
  refine q_s (pc' := 5) (ls' := [vR 2, vI a1, vI a2]) (st' := [vI a1, vR (g 2 0)]) (g' := g) k103_4 rfl rfl ?_
  refine q_callI (ls0 := [vR (g 2 0), vI a1]) (rest := []) (pc' := 8) rfl k103_5 rfl (hy4 rfl rfl (rcv0 rfl h1) rfl) rfl rfl hq_14 rfl (fun q2 => ?_)
  refine q_if (P := q2.1 = 0) (t := 19) (pc' := 11) k103_8 Iff.rfl rfl rfl (fun h3 => ?_) (fun h3 => ?_)
  · refine q_s (pc' := 20) (ls' := [vR 2, vI a1, vI a2]) (st' := [vR 2]) (g' := q2.2) k103_19 rfl rfl ?_
    refine q_s (pc' := 23) (ls' := [vR 2, vI a1, vI a2]) (st' := [vI (-202), vR 2]) (g' := q2.2) k103_20 rfl rfl ?_
    refine q_callI (ls0 := [vR 2, vI (-202)]) (rest := []) (pc' := 26) rfl k103_23 rfl (hy4 rfl rfl rfl rfl) rfl rfl hq_94 rfl (fun q4 => ?_)
    exact q_e k103_26 rfl rfl rfl
  · refine q_s (pc' := 12) (ls' := [vR 2, vI a1, vI a2]) (st' := [vI a2]) (g' := q2.2) k103_11 rfl rfl ?_
    refine q_s (pc' := 13) (ls' := [vR 2, vI a1, vI a2]) (st' := [vI 3, vI a2]) (g' := q2.2) k103_12 rfl rfl ?_
    refine q_callI (ls0 := [vI a2, vI 3]) (rest := []) (pc' := 16) rfl k103_13 rfl (hy4 rfl rfl rfl rfl) rfl rfl hq_13 rfl (fun q5 => ?_)
    refine q_if (P := q5.1 ≠ 0) (t := 27) (pc' := 19) k103_16 Iff.rfl rfl rfl (fun h6 => ?_) (fun h6 => ?_)
    · refine q_s (pc' := 28) (ls' := [vR 2, vI a1, vI a2]) (st' := [vI a2]) (g' := q5.2) k103_27 rfl rfl ?_
      refine q_by (P := a2 = 0) (fun h7 => ?_) (fun h7 => ?_)
      · refine q_s (pc' := 56) (ls' := [vR 2, vI a1, vI a2]) (st' := []) (g' := q5.2) k103_28 rfl (e_top h7 rfl) ?_
        refine q_s (pc' := 57) (ls' := [vR 2, vI a1, vI a2]) (st' := [vR 2]) (g' := q5.2) k103_56 rfl rfl ?_
        refine q_getM (w := 0) (c := 3) (pc' := 60) rfl k103_57 rfl rfl rfl rfl rfl (fun h8 => ?_)
        refine q_getF (r := q5.2 2 0 + 1) (pc' := 63) k103_60 h8 rfl (kG_f h8).1 rfl ?_
        refine q_s (pc' := 64) (ls' := [vR 2, vI a1, vI a2]) (st' := [vI a1, vR (q5.2 2 0 + 1)]) (g' := q5.2) k103_63 rfl rfl ?_
        refine q_aald (n := 10) (pc' := 65) rfl k103_64 (kG_f h8).2.2.1 rfl (q5.2 2 0 + 2 + 2 * a1) (fun h => (kG_b h8 h.1 h.2).1) (fun h9 => ?_)
        refine q_getI (w := 1) (pc' := 68) k103_65 (kG_b h8 h9.1 h9.2).2 rfl rfl rfl ?_
        exact q_e k103_68 rfl rfl rfl
      · skip
        refine q_by (P := a2 = 1) (fun h10 => ?_) (fun h10 => ?_)
        · refine q_s (pc' := 69) (ls' := [vR 2, vI a1, vI a2]) (st' := []) (g' := q5.2) k103_28 rfl (e_top h10 rfl) ?_
          refine q_s (pc' := 70) (ls' := [vR 2, vI a1, vI a2]) (st' := [vR 2]) (g' := q5.2) k103_69 rfl rfl ?_
          refine q_getM (w := 0) (c := 3) (pc' := 73) rfl k103_70 rfl rfl rfl rfl rfl (fun h11 => ?_)
          refine q_s (pc' := 74) (ls' := [vR 2, vI a1, vI a2]) (st' := [vI a1, vR (q5.2 2 0)]) (g' := q5.2) k103_73 rfl rfl ?_
          refine q_callI (ls0 := [vR (q5.2 2 0), vI a1, vU, vU]) (rest := []) (pc' := 77) rfl k103_74 rfl (hy4 rfl rfl (rcv0 rfl h11) rfl) rfl rfl hq_20 rfl (fun q12 => ?_)
          exact q_e k103_77 rfl rfl rfl
        · skip
          refine q_s (pc' := 78) (ls' := [vR 2, vI a1, vI a2]) (st' := []) (g' := q5.2) k103_28 rfl (e_lsw2 h7 h10) ?_
          refine q_s (pc' := 79) (ls' := [vR 2, vI a1, vI a2]) (st' := [vR 2]) (g' := q5.2) k103_78 rfl rfl ?_
          refine q_getM (w := 0) (c := 3) (pc' := 82) rfl k103_79 rfl rfl rfl rfl rfl (fun h13 => ?_)
          refine q_s (pc' := 83) (ls' := [vR 2, vI a1, vI a2]) (st' := [vI a1, vR (q5.2 2 0)]) (g' := q5.2) k103_82 rfl rfl ?_
          refine q_callI (ls0 := [vR (q5.2 2 0), vI a1, vU, vU]) (rest := []) (pc' := 86) rfl k103_83 rfl (hy4 rfl rfl (rcv0 rfl h13) rfl) rfl rfl hq_21 rfl (fun q14 => ?_)
          exact q_e k103_86 rfl rfl rfl
    · refine q_s (pc' := 20) (ls' := [vR 2, vI a1, vI a2]) (st' := [vR 2]) (g' := q5.2) k103_19 rfl rfl ?_
      refine q_s (pc' := 23) (ls' := [vR 2, vI a1, vI a2]) (st' := [vI (-202), vR 2]) (g' := q5.2) k103_20 rfl rfl ?_
      refine q_callI (ls0 := [vR 2, vI (-202)]) (rest := []) (pc' := 26) rfl k103_23 rfl (hy4 rfl rfl rfl rfl) rfl rfl hq_94 rfl (fun q15 => ?_)
      exact q_e k103_26 rfl rfl rfl
set_option maxHeartbeats 4000000 in
theorem jX_region_eq (L : Nat) (a1 : Int) (a2 : Int) (g : AMem) : jX_region L a1 a2 g = if kin (SH L) (g 2 0) = 3 then ((jGr_hasBlock L (g 2 0) a1 g).bind (fun q2 => if q2.1 = 0 then ((jX_refuse L (-202) q2.2).bind (fun q4 => some (q4.1, q4.2))) else (if 0 ≤ a2 then (if kin (SH L) (q2.2 2 0) = 3 then (if 0 ≤ a1 ∧ a1 < 10 then (if q2.2 (q2.2 2 0 + 2 + 2 * a1) 1 ≤ a2 then (some ((-201), q2.2)) else (if kin (SH L) (q2.2 2 0) = 3 then (if 0 ≤ a1 ∧ a1 < 10 then (if 0 ≤ a2 ∧ a2 < 6 then (some (q2.2 (q2.2 2 0 + 2 + 2 * a1 + 1) a2, q2.2)) else none) else none) else none)) else none) else none) else ((jX_refuse L (-202) q2.2).bind (fun q12 => some (q12.1, q12.2)))))) else none := by
  unfold jX_region
  refine q_s (pc' := 1) (ls' := [vR 2, vI a1, vI a2]) (st' := [vR 2]) (g' := g) k104_0 rfl rfl ?_
  refine q_getM (w := 0) (c := 3) (pc' := 4) rfl k104_1 rfl rfl rfl rfl rfl (fun h1 => ?_)
  refine q_s (pc' := 5) (ls' := [vR 2, vI a1, vI a2]) (st' := [vI a1, vR (g 2 0)]) (g' := g) k104_4 rfl rfl ?_
  refine q_callI (ls0 := [vR (g 2 0), vI a1]) (rest := []) (pc' := 8) rfl k104_5 rfl (hy4 rfl rfl (rcv0 rfl h1) rfl) rfl rfl hq_14 rfl (fun q2 => ?_)
  refine q_if (P := q2.1 = 0) (t := 15) (pc' := 11) k104_8 Iff.rfl rfl rfl (fun h3 => ?_) (fun h3 => ?_)
  · refine q_s (pc' := 16) (ls' := [vR 2, vI a1, vI a2]) (st' := [vR 2]) (g' := q2.2) k104_15 rfl rfl ?_
    refine q_s (pc' := 19) (ls' := [vR 2, vI a1, vI a2]) (st' := [vI (-202), vR 2]) (g' := q2.2) k104_16 rfl rfl ?_
    refine q_callI (ls0 := [vR 2, vI (-202)]) (rest := []) (pc' := 22) rfl k104_19 rfl (hy4 rfl rfl rfl rfl) rfl rfl hq_94 rfl (fun q4 => ?_)
    exact q_e k104_22 rfl rfl rfl
  · refine q_s (pc' := 12) (ls' := [vR 2, vI a1, vI a2]) (st' := [vI a2]) (g' := q2.2) k104_11 rfl rfl ?_
    refine q_if (P := 0 ≤ a2) (t := 23) (pc' := 15) k104_12 Iff.rfl rfl rfl (fun h5 => ?_) (fun h5 => ?_)
    · refine q_s (pc' := 24) (ls' := [vR 2, vI a1, vI a2]) (st' := [vI a2]) (g' := q2.2) k104_23 rfl rfl ?_
      refine q_s (pc' := 25) (ls' := [vR 2, vI a1, vI a2]) (st' := [vR 2, vI a2]) (g' := q2.2) k104_24 rfl rfl ?_
      refine q_getM (w := 0) (c := 3) (pc' := 28) rfl k104_25 rfl rfl rfl rfl rfl (fun h6 => ?_)
      refine q_getF (r := q2.2 2 0 + 1) (pc' := 31) k104_28 h6 rfl (kG_f h6).1 rfl ?_
      refine q_s (pc' := 32) (ls' := [vR 2, vI a1, vI a2]) (st' := [vI a1, vR (q2.2 2 0 + 1), vI a2]) (g' := q2.2) k104_31 rfl rfl ?_
      refine q_aald (n := 10) (pc' := 33) rfl k104_32 (kG_f h6).2.2.1 rfl (q2.2 2 0 + 2 + 2 * a1) (fun h => (kG_b h6 h.1 h.2).1) (fun h7 => ?_)
      refine q_getI (w := 1) (pc' := 36) k104_33 (kG_b h6 h7.1 h7.2).2 rfl rfl rfl ?_
      refine q_ic (P := q2.2 (q2.2 2 0 + 2 + 2 * a1) 1 ≤ a2) (t := 56) (pc' := 39) k104_36 Iff.rfl rfl rfl (fun h8 => ?_) (fun h8 => ?_)
      · refine q_s (pc' := 59) (ls' := [vR 2, vI a1, vI a2]) (st' := [vI (-201)]) (g' := q2.2) k104_56 rfl rfl ?_
        exact q_e k104_59 rfl rfl rfl
      · refine q_s (pc' := 40) (ls' := [vR 2, vI a1, vI a2]) (st' := [vR 2]) (g' := q2.2) k104_39 rfl rfl ?_
        refine q_getM (w := 0) (c := 3) (pc' := 43) rfl k104_40 rfl rfl rfl rfl rfl (fun h9 => ?_)
        refine q_getF (r := q2.2 2 0 + 1) (pc' := 46) k104_43 h9 rfl (kG_f h9).1 rfl ?_
        refine q_s (pc' := 47) (ls' := [vR 2, vI a1, vI a2]) (st' := [vI a1, vR (q2.2 2 0 + 1)]) (g' := q2.2) k104_46 rfl rfl ?_
        refine q_aald (n := 10) (pc' := 48) rfl k104_47 (kG_f h9).2.2.1 rfl (q2.2 2 0 + 2 + 2 * a1) (fun h => (kG_b h9 h.1 h.2).1) (fun h10 => ?_)
        refine q_getF (r := q2.2 2 0 + 2 + 2 * a1 + 1) (pc' := 51) k104_48 (kG_b h9 h10.1 h10.2).2 rfl (kB (kG_b h9 h10.1 h10.2).2).1 rfl ?_
        refine q_s (pc' := 52) (ls' := [vR 2, vI a1, vI a2]) (st' := [vI a2, vR (q2.2 2 0 + 2 + 2 * a1 + 1)]) (g' := q2.2) k104_51 rfl rfl ?_
        refine q_iald (n := 6) (pc' := 53) rfl k104_52 (kB (kG_b h9 h10.1 h10.2).2).2 rfl (fun h11 => ?_)
        refine q_s (pc' := 59) (ls' := [vR 2, vI a1, vI a2]) (st' := [vI (q2.2 (q2.2 2 0 + 2 + 2 * a1 + 1) a2)]) (g' := q2.2) k104_53 rfl rfl ?_
        exact q_e k104_59 rfl rfl rfl
    · refine q_s (pc' := 16) (ls' := [vR 2, vI a1, vI a2]) (st' := [vR 2]) (g' := q2.2) k104_15 rfl rfl ?_
      refine q_s (pc' := 19) (ls' := [vR 2, vI a1, vI a2]) (st' := [vI (-202), vR 2]) (g' := q2.2) k104_16 rfl rfl ?_
      refine q_callI (ls0 := [vR 2, vI (-202)]) (rest := []) (pc' := 22) rfl k104_19 rfl (hy4 rfl rfl rfl rfl) rfl rfl hq_94 rfl (fun q12 => ?_)
      exact q_e k104_22 rfl rfl rfl
set_option maxHeartbeats 4000000 in
theorem jX_given_eq (L : Nat) (a1 : Int) (a2 : Int) (g : AMem) : jX_given L a1 a2 g = if kin (SH L) (g 2 0) = 3 then ((jGr_hasEdge L (g 2 0) a1 g).bind (fun q2 => if q2.1 = 0 then ((jX_refuse L (-202) q2.2).bind (fun q4 => some (q4.1, q4.2))) else (if 0 ≤ a2 then (if kin (SH L) (q2.2 2 0) = 3 then (if 0 ≤ a1 ∧ a1 < 16 then (if 0 ≤ q2.2 (q2.2 2 0 + 23 + 2 * a1) 2 ∧ q2.2 (q2.2 2 0 + 23 + 2 * a1) 2 < 10 then (if q2.2 (q2.2 2 0 + 2 + 2 * (q2.2 (q2.2 2 0 + 23 + 2 * a1) 2)) 1 ≤ a2 then (some ((-201), q2.2)) else (if kin (SH L) (q2.2 2 0) = 3 then (if 0 ≤ a1 ∧ a1 < 16 then (if 0 ≤ a2 ∧ a2 < 6 then (some (q2.2 (q2.2 2 0 + 23 + 2 * a1 + 1) a2, q2.2)) else none) else none) else none)) else none) else none) else none) else ((jX_refuse L (-202) q2.2).bind (fun q14 => some (q14.1, q14.2)))))) else none := by
  unfold jX_given
  refine q_s (pc' := 1) (ls' := [vR 2, vI a1, vI a2]) (st' := [vR 2]) (g' := g) k105_0 rfl rfl ?_
  refine q_getM (w := 0) (c := 3) (pc' := 4) rfl k105_1 rfl rfl rfl rfl rfl (fun h1 => ?_)
  refine q_s (pc' := 5) (ls' := [vR 2, vI a1, vI a2]) (st' := [vI a1, vR (g 2 0)]) (g' := g) k105_4 rfl rfl ?_
  refine q_callI (ls0 := [vR (g 2 0), vI a1]) (rest := []) (pc' := 8) rfl k105_5 rfl (hy4 rfl rfl (rcv0 rfl h1) rfl) rfl rfl hq_15 rfl (fun q2 => ?_)
  refine q_if (P := q2.1 = 0) (t := 15) (pc' := 11) k105_8 Iff.rfl rfl rfl (fun h3 => ?_) (fun h3 => ?_)
  · refine q_s (pc' := 16) (ls' := [vR 2, vI a1, vI a2]) (st' := [vR 2]) (g' := q2.2) k105_15 rfl rfl ?_
    refine q_s (pc' := 19) (ls' := [vR 2, vI a1, vI a2]) (st' := [vI (-202), vR 2]) (g' := q2.2) k105_16 rfl rfl ?_
    refine q_callI (ls0 := [vR 2, vI (-202)]) (rest := []) (pc' := 22) rfl k105_19 rfl (hy4 rfl rfl rfl rfl) rfl rfl hq_94 rfl (fun q4 => ?_)
    exact q_e k105_22 rfl rfl rfl
  · refine q_s (pc' := 12) (ls' := [vR 2, vI a1, vI a2]) (st' := [vI a2]) (g' := q2.2) k105_11 rfl rfl ?_
    refine q_if (P := 0 ≤ a2) (t := 23) (pc' := 15) k105_12 Iff.rfl rfl rfl (fun h5 => ?_) (fun h5 => ?_)
    · refine q_s (pc' := 24) (ls' := [vR 2, vI a1, vI a2]) (st' := [vI a2]) (g' := q2.2) k105_23 rfl rfl ?_
      refine q_s (pc' := 25) (ls' := [vR 2, vI a1, vI a2]) (st' := [vR 2, vI a2]) (g' := q2.2) k105_24 rfl rfl ?_
      refine q_getM (w := 0) (c := 3) (pc' := 28) rfl k105_25 rfl rfl rfl rfl rfl (fun h6 => ?_)
      refine q_s (pc' := 29) (ls' := [vR 2, vI a1, vI a2]) (st' := [vI a1, vR (q2.2 2 0), vI a2]) (g' := q2.2) k105_28 rfl rfl ?_
      refine q_goal (t := q2.2 2 0) (e := a1) (pc' := 32) rfl k105_29 h6 rfl rfl (fun h8 h9 => ?_)
      refine q_getI (w := 1) (pc' := 35) k105_32 (kG_b h6 h9.1 h9.2).2 rfl rfl rfl ?_
      refine q_ic (P := q2.2 (q2.2 2 0 + 2 + 2 * (q2.2 (q2.2 2 0 + 23 + 2 * a1) 2)) 1 ≤ a2) (t := 55) (pc' := 38) k105_35 Iff.rfl rfl rfl (fun h10 => ?_) (fun h10 => ?_)
      · refine q_s (pc' := 58) (ls' := [vR 2, vI a1, vI a2]) (st' := [vI (-201)]) (g' := q2.2) k105_55 rfl rfl ?_
        exact q_e k105_58 rfl rfl rfl
      · refine q_s (pc' := 39) (ls' := [vR 2, vI a1, vI a2]) (st' := [vR 2]) (g' := q2.2) k105_38 rfl rfl ?_
        refine q_getM (w := 0) (c := 3) (pc' := 42) rfl k105_39 rfl rfl rfl rfl rfl (fun h11 => ?_)
        refine q_getF (r := q2.2 2 0 + 22) (pc' := 45) k105_42 h11 rfl (kG_f h11).2.1 rfl ?_
        refine q_s (pc' := 46) (ls' := [vR 2, vI a1, vI a2]) (st' := [vI a1, vR (q2.2 2 0 + 22)]) (g' := q2.2) k105_45 rfl rfl ?_
        refine q_aald (n := 16) (pc' := 47) rfl k105_46 (kG_f h11).2.2.2 rfl (q2.2 2 0 + 23 + 2 * a1) (fun h => (kG_e h11 h.1 h.2).1) (fun h12 => ?_)
        refine q_getF (r := q2.2 2 0 + 23 + 2 * a1 + 1) (pc' := 50) k105_47 (kG_e h11 h12.1 h12.2).2 rfl (kE (kG_e h11 h12.1 h12.2).2).1 rfl ?_
        refine q_s (pc' := 51) (ls' := [vR 2, vI a1, vI a2]) (st' := [vI a2, vR (q2.2 2 0 + 23 + 2 * a1 + 1)]) (g' := q2.2) k105_50 rfl rfl ?_
        refine q_iald (n := 6) (pc' := 52) rfl k105_51 (kE (kG_e h11 h12.1 h12.2).2).2 rfl (fun h13 => ?_)
        refine q_s (pc' := 58) (ls' := [vR 2, vI a1, vI a2]) (st' := [vI (q2.2 (q2.2 2 0 + 23 + 2 * a1 + 1) a2)]) (g' := q2.2) k105_52 rfl rfl ?_
        exact q_e k105_58 rfl rfl rfl
    · refine q_s (pc' := 16) (ls' := [vR 2, vI a1, vI a2]) (st' := [vR 2]) (g' := q2.2) k105_15 rfl rfl ?_
      refine q_s (pc' := 19) (ls' := [vR 2, vI a1, vI a2]) (st' := [vI (-202), vR 2]) (g' := q2.2) k105_16 rfl rfl ?_
      refine q_callI (ls0 := [vR 2, vI (-202)]) (rest := []) (pc' := 22) rfl k105_19 rfl (hy4 rfl rfl rfl rfl) rfl rfl hq_94 rfl (fun q14 => ?_)
      exact q_e k105_22 rfl rfl rfl
set_option maxHeartbeats 4000000 in
theorem jX_type_eq (L : Nat) (a1 : Int) (g : AMem) : jX_type L a1 g = (jX_isBelow L a1 128 g).bind (fun q1 => if q1.1 ≠ 0 then (if q1.2 113 1 < 120 then ((jTe_append L a1 q1.2).bind (fun q4 => some (q4 113 1, q4))) else ((jX_refuse L (-204) q1.2).bind (fun q5 => some (q5.1, q5.2)))) else ((jX_refuse L (-202) q1.2).bind (fun q6 => some (q6.1, q6.2)))) := by
  unfold jX_type
  refine q_s (pc' := 1) (ls' := [vR 2, vI a1]) (st' := [vI a1]) (g' := g) k106_0 rfl rfl ?_
  refine q_s (pc' := 4) (ls' := [vR 2, vI a1]) (st' := [vI 128, vI a1]) (g' := g) k106_1 rfl rfl ?_
  refine q_callI (ls0 := [vI a1, vI 128]) (rest := []) (pc' := 7) rfl k106_4 rfl (hy4 rfl rfl rfl rfl) rfl rfl hq_13 rfl (fun q1 => ?_)
  refine q_if (P := q1.1 ≠ 0) (t := 18) (pc' := 10) k106_7 Iff.rfl rfl rfl (fun h2 => ?_) (fun h2 => ?_)
  · refine q_s (pc' := 19) (ls' := [vR 2, vI a1]) (st' := [vR 2]) (g' := q1.2) k106_18 rfl rfl ?_
    refine q_getF (r := 113) (pc' := 22) k106_19 rfl rfl rfl rfl ?_
    refine q_getI (w := 1) (pc' := 25) k106_22 rfl rfl rfl rfl ?_
    refine q_s (pc' := 27) (ls' := [vR 2, vI a1]) (st' := [vI 120, vI (q1.2 113 1)]) (g' := q1.2) k106_25 rfl rfl ?_
    refine q_ic (P := q1.2 113 1 < 120) (t := 38) (pc' := 30) k106_27 Iff.rfl rfl rfl (fun h3 => ?_) (fun h3 => ?_)
    · refine q_s (pc' := 39) (ls' := [vR 2, vI a1]) (st' := [vR 2]) (g' := q1.2) k106_38 rfl rfl ?_
      refine q_getF (r := 113) (pc' := 42) k106_39 rfl rfl rfl rfl ?_
      refine q_s (pc' := 43) (ls' := [vR 2, vI a1]) (st' := [vI a1, vR 113]) (g' := q1.2) k106_42 rfl rfl ?_
      refine q_callV (ls0 := [vR 113, vI a1]) (rest := []) (pc' := 46) rfl k106_43 rfl (hy4 rfl rfl rfl rfl) rfl rfl hq_91 rfl (fun q4 => ?_)
      refine q_s (pc' := 47) (ls' := [vR 2, vI a1]) (st' := [vR 2]) (g' := q4) k106_46 rfl rfl ?_
      refine q_getF (r := 113) (pc' := 50) k106_47 rfl rfl rfl rfl ?_
      refine q_getI (w := 1) (pc' := 53) k106_50 rfl rfl rfl rfl ?_
      exact q_e k106_53 rfl rfl rfl
    · refine q_s (pc' := 31) (ls' := [vR 2, vI a1]) (st' := [vR 2]) (g' := q1.2) k106_30 rfl rfl ?_
      refine q_s (pc' := 34) (ls' := [vR 2, vI a1]) (st' := [vI (-204), vR 2]) (g' := q1.2) k106_31 rfl rfl ?_
      refine q_callI (ls0 := [vR 2, vI (-204)]) (rest := []) (pc' := 37) rfl k106_34 rfl (hy4 rfl rfl rfl rfl) rfl rfl hq_94 rfl (fun q5 => ?_)
      exact q_e k106_37 rfl rfl rfl
  · refine q_s (pc' := 11) (ls' := [vR 2, vI a1]) (st' := [vR 2]) (g' := q1.2) k106_10 rfl rfl ?_
    refine q_s (pc' := 14) (ls' := [vR 2, vI a1]) (st' := [vI (-202), vR 2]) (g' := q1.2) k106_11 rfl rfl ?_
    refine q_callI (ls0 := [vR 2, vI (-202)]) (rest := []) (pc' := 17) rfl k106_14 rfl (hy4 rfl rfl rfl rfl) rfl rfl hq_94 rfl (fun q6 => ?_)
    exact q_e k106_17 rfl rfl rfl
set_option maxHeartbeats 4000000 in
theorem jX_clear_eq (L : Nat) (g : AMem) : jX_clear L g = some (g 113 1, up g 113 1 0) := by
  unfold jX_clear
  refine q_s (pc' := 1) (ls' := [vR 2, vU]) (st' := [vR 2]) (g' := g) k107_0 rfl rfl ?_
  refine q_getF (r := 113) (pc' := 4) k107_1 rfl rfl rfl rfl ?_
  refine q_getI (w := 1) (pc' := 7) k107_4 rfl rfl rfl rfl ?_
  refine q_s (pc' := 8) (ls' := [vR 2, vI (g 113 1)]) (st' := []) (g' := g) k107_7 rfl rfl ?_
  refine q_s (pc' := 9) (ls' := [vR 2, vI (g 113 1)]) (st' := [vR 2]) (g' := g) k107_8 rfl rfl ?_
  refine q_getF (r := 113) (pc' := 12) k107_9 rfl rfl rfl rfl ?_
  refine q_s (pc' := 13) (ls' := [vR 2, vI (g 113 1)]) (st' := [vI 0, vR 113]) (g' := g) k107_12 rfl rfl ?_
  refine q_putI (w := 1) (pc' := 16) k107_13 rfl rfl rfl rfl ?_
  refine q_s (pc' := 17) (ls' := [vR 2, vI (g 113 1)]) (st' := [vI (g 113 1)]) (g' := up g 113 1 0) k107_16 rfl rfl ?_
  exact q_e k107_17 rfl rfl rfl
set_option maxHeartbeats 4000000 in
theorem jX_read_eq (L : Nat) (g : AMem) : jX_read L g = if kin (SH L) (g 2 1) = 3 then ((jRe_readInto L (g 2 1) g).bind (fun q2 => if q2.1 ≤ 0 then (some (q2.1, q2.2)) else (if kin (SH L) (q2.2 2 0) = 3 then (if kin (SH L) (q2.2 2 1) = 3 then (some (q2.1, up (up q2.2 2 0 (q2.2 2 1)) 2 1 (q2.2 2 0))) else none) else none))) else none := by
  unfold jX_read
  refine q_s (pc' := 1) (ls' := [vR 2, vU, vU]) (st' := [vR 2]) (g' := g) k108_0 rfl rfl ?_
  refine q_getF (r := 115) (pc' := 4) k108_1 rfl rfl rfl rfl ?_
  refine q_s (pc' := 5) (ls' := [vR 2, vU, vU]) (st' := [vR 2, vR 115]) (g' := g) k108_4 rfl rfl ?_
  refine q_getM (w := 1) (c := 3) (pc' := 8) rfl k108_5 rfl rfl rfl rfl rfl (fun h1 => ?_)
  refine q_callI (ls0 := [vR 115, vR (g 2 1), vU, vU, vU]) (rest := []) (pc' := 11) rfl k108_8 rfl (hy4 rfl rfl rfl rfl) rfl rfl hq_88 rfl (fun q2 => ?_)
  refine q_s (pc' := 12) (ls' := [vR 2, vI q2.1, vU]) (st' := []) (g' := q2.2) k108_11 rfl rfl ?_
  refine q_s (pc' := 13) (ls' := [vR 2, vI q2.1, vU]) (st' := [vI q2.1]) (g' := q2.2) k108_12 rfl rfl ?_
  refine q_if (P := q2.1 ≤ 0) (t := 34) (pc' := 16) k108_13 Iff.rfl rfl rfl (fun h3 => ?_) (fun h3 => ?_)
  · refine q_s (pc' := 35) (ls' := [vR 2, vI q2.1, vU]) (st' := [vI q2.1]) (g' := q2.2) k108_34 rfl rfl ?_
    exact q_e k108_35 rfl rfl rfl
  · refine q_s (pc' := 17) (ls' := [vR 2, vI q2.1, vU]) (st' := [vR 2]) (g' := q2.2) k108_16 rfl rfl ?_
    refine q_getM (w := 0) (c := 3) (pc' := 20) rfl k108_17 rfl rfl rfl rfl rfl (fun h4 => ?_)
    refine q_stR_n (pc' := 21) (ls' := [vR 2, vI q2.1, vR (q2.2 2 0)]) k108_20 rfl rfl rfl (by have := (k2 h4 (by decide)); omega) rfl ?_
    refine q_s (pc' := 22) (ls' := [vR 2, vI q2.1, vR (q2.2 2 0)]) (st' := [vR 2]) (g' := q2.2) k108_21 rfl rfl ?_
    refine q_s (pc' := 23) (ls' := [vR 2, vI q2.1, vR (q2.2 2 0)]) (st' := [vR 2, vR 2]) (g' := q2.2) k108_22 rfl rfl ?_
    refine q_getM (w := 1) (c := 3) (pc' := 26) rfl k108_23 rfl rfl rfl rfl rfl (fun h5 => ?_)
    refine q_putM (w := 0) (pc' := 29) k108_26 rfl rfl rfl rfl ?_
    refine q_s (pc' := 30) (ls' := [vR 2, vI q2.1, vR (q2.2 2 0)]) (st' := [vR 2]) (g' := up q2.2 2 0 (q2.2 2 1)) k108_29 rfl rfl ?_
    refine q_ldR_n (pc' := 31) k108_30 rfl rfl (by have := (k2 h4 (by decide)); omega) ?_
    refine q_putM (w := 1) (pc' := 34) k108_31 rfl rfl rfl rfl ?_
    refine q_s (pc' := 35) (ls' := [vR 2, vI q2.1, vR (q2.2 2 0)]) (st' := [vI q2.1]) (g' := up (up q2.2 2 0 (q2.2 2 1)) 2 1 (q2.2 2 0)) k108_34 rfl rfl ?_
    exact q_e k108_35 rfl rfl rfl
set_option maxHeartbeats 4000000 in
theorem jX_refusalFor_eq (L : Nat) (a1 : Int) (a2 : Int) (g : AMem) : jX_refusalFor L a1 a2 g = if kin (SH L) (g 2 0) = 3 then ((jGr_hasEdge L (g 2 0) a1 g).bind (fun q2 => if q2.1 = 0 then (some ((-202), q2.2)) else (if a2 ≠ 0 then ((jX_isClear L a1 q2.2).bind (fun q5 => if q5.1 = 0 then (some ((-203), q5.2)) else (some (0, q5.2)))) else (some ((-202), q2.2))))) else none := by
  unfold jX_refusalFor
  refine q_s (pc' := 1) (ls' := [vR 2, vI a1, vI a2]) (st' := [vR 2]) (g' := g) k109_0 rfl rfl ?_
  refine q_getM (w := 0) (c := 3) (pc' := 4) rfl k109_1 rfl rfl rfl rfl rfl (fun h1 => ?_)
  refine q_s (pc' := 5) (ls' := [vR 2, vI a1, vI a2]) (st' := [vI a1, vR (g 2 0)]) (g' := g) k109_4 rfl rfl ?_
  refine q_callI (ls0 := [vR (g 2 0), vI a1]) (rest := []) (pc' := 8) rfl k109_5 rfl (hy4 rfl rfl (rcv0 rfl h1) rfl) rfl rfl hq_15 rfl (fun q2 => ?_)
  refine q_if (P := q2.1 = 0) (t := 15) (pc' := 11) k109_8 Iff.rfl rfl rfl (fun h3 => ?_) (fun h3 => ?_)
  · refine q_s (pc' := 18) (ls' := [vR 2, vI a1, vI a2]) (st' := [vI (-202)]) (g' := q2.2) k109_15 rfl rfl ?_
    exact q_e k109_18 rfl rfl rfl
  · refine q_s (pc' := 12) (ls' := [vR 2, vI a1, vI a2]) (st' := [vI a2]) (g' := q2.2) k109_11 rfl rfl ?_
    refine q_if (P := a2 ≠ 0) (t := 19) (pc' := 15) k109_12 Iff.rfl rfl rfl (fun h4 => ?_) (fun h4 => ?_)
    · refine q_s (pc' := 20) (ls' := [vR 2, vI a1, vI a2]) (st' := [vR 2]) (g' := q2.2) k109_19 rfl rfl ?_
      refine q_s (pc' := 21) (ls' := [vR 2, vI a1, vI a2]) (st' := [vI a1, vR 2]) (g' := q2.2) k109_20 rfl rfl ?_
      refine q_callI (ls0 := [vR 2, vI a1]) (rest := []) (pc' := 24) rfl k109_21 rfl (hy4 rfl rfl rfl rfl) rfl rfl hq_101 rfl (fun q5 => ?_)
      refine q_if (P := q5.1 = 0) (t := 31) (pc' := 27) k109_24 Iff.rfl rfl rfl (fun h6 => ?_) (fun h6 => ?_)
      · refine q_s (pc' := 34) (ls' := [vR 2, vI a1, vI a2]) (st' := [vI (-203)]) (g' := q5.2) k109_31 rfl rfl ?_
        exact q_e k109_34 rfl rfl rfl
      · refine q_s (pc' := 28) (ls' := [vR 2, vI a1, vI a2]) (st' := [vI 0]) (g' := q5.2) k109_27 rfl rfl ?_
        refine q_s (pc' := 34) (ls' := [vR 2, vI a1, vI a2]) (st' := [vI 0]) (g' := q5.2) k109_28 rfl rfl ?_
        exact q_e k109_34 rfl rfl rfl
    · refine q_s (pc' := 18) (ls' := [vR 2, vI a1, vI a2]) (st' := [vI (-202)]) (g' := q2.2) k109_15 rfl rfl ?_
      exact q_e k109_18 rfl rfl rfl
set_option maxHeartbeats 4000000 in
theorem jX_makePlan_eq (L : Nat) (t1 : Int) (a2 : Int) (g : AMem) (ht1 : kin (SH L) t1 = 6) : jX_makePlan L t1 a2 g = if kin (SH L) (g 2 0) = 3 then (if 0 ≤ a2 ∧ a2 < 16 then (if 0 ≤ g (g 2 0 + 23 + 2 * a2) 2 ∧ g (g 2 0 + 23 + 2 * a2) 2 < 10 then (if kin (SH L) (g 2 0) = 3 then (if 0 ≤ a2 ∧ a2 < 16 then ((jHo_look L (g 2 0 + 2 + 2 * (g (g 2 0 + 23 + 2 * a2) 2)) (g 2 0 + 23 + 2 * a2) g).bind (fun q7 => (jPl_make L t1 (q7 2 10) q7).bind (fun q8 => some q8))) else none) else none) else none) else none) else none := by
  unfold jX_makePlan
  refine q_s (pc' := 1) (ls' := [vR 2, vR t1, vI a2]) (st' := [vR 2]) (g' := g) k110_0 rfl rfl ?_
  refine q_getF (r := 116) (pc' := 4) k110_1 rfl rfl rfl rfl ?_
  refine q_s (pc' := 5) (ls' := [vR 2, vR t1, vI a2]) (st' := [vR 2, vR 116]) (g' := g) k110_4 rfl rfl ?_
  refine q_getM (w := 0) (c := 3) (pc' := 8) rfl k110_5 rfl rfl rfl rfl rfl (fun h1 => ?_)
  refine q_s (pc' := 9) (ls' := [vR 2, vR t1, vI a2]) (st' := [vI a2, vR (g 2 0), vR 116]) (g' := g) k110_8 rfl rfl ?_
  refine q_goal (t := g 2 0) (e := a2) (pc' := 12) rfl k110_9 h1 rfl rfl (fun h3 h4 => ?_)
  refine q_s (pc' := 13) (ls' := [vR 2, vR t1, vI a2]) (st' := [vR 2, vR (g 2 0 + 2 + 2 * (g (g 2 0 + 23 + 2 * a2) 2)), vR 116]) (g' := g) k110_12 rfl rfl ?_
  refine q_getM (w := 0) (c := 3) (pc' := 16) rfl k110_13 rfl rfl rfl rfl rfl (fun h5 => ?_)
  refine q_getF (r := g 2 0 + 22) (pc' := 19) k110_16 h5 rfl (kG_f h5).2.1 rfl ?_
  refine q_s (pc' := 20) (ls' := [vR 2, vR t1, vI a2]) (st' := [vI a2, vR (g 2 0 + 22), vR (g 2 0 + 2 + 2 * (g (g 2 0 + 23 + 2 * a2) 2)), vR 116]) (g' := g) k110_19 rfl rfl ?_
  refine q_aald (n := 16) (pc' := 21) rfl k110_20 (kG_f h5).2.2.2 rfl (g 2 0 + 23 + 2 * a2) (fun h => (kG_e h5 h.1 h.2).1) (fun h6 => ?_)
  refine q_callV (ls0 := [vR 116, vR (g 2 0 + 2 + 2 * (g (g 2 0 + 23 + 2 * a2) 2)), vR (g 2 0 + 23 + 2 * a2)]) (rest := []) (pc' := 24) rfl k110_21 rfl (hy4 rfl rfl rfl rfl) rfl rfl hq_24 rfl (fun q7 => ?_)
  refine q_ldR_n (pc' := 25) k110_24 rfl rfl (by have := (k2 ht1 (by decide)); omega) ?_
  refine q_s (pc' := 26) (ls' := [vR 2, vR t1, vI a2]) (st' := [vR 2, vR t1]) (g' := q7) k110_25 rfl rfl ?_
  refine q_getF (r := 116) (pc' := 29) k110_26 rfl rfl rfl rfl ?_
  refine q_s (pc' := 30) (ls' := [vR 2, vR t1, vI a2]) (st' := [vR 2, vR 116, vR t1]) (g' := q7) k110_29 rfl rfl ?_
  refine q_getI (w := 10) (pc' := 33) k110_30 rfl rfl rfl rfl ?_
  refine q_callV (ls0 := [vR t1, vR 116, vI (q7 2 10), vU, vU]) (rest := []) (pc' := 36) rfl k110_33 rfl (hy4 rfl rfl (rcv0 rfl ht1) rfl) rfl rfl hq_64 rfl (fun q8 => ?_)
  exact q_e k110_36 rfl rfl rfl
set_option maxHeartbeats 4000000 in
theorem jX_steps_eq (L : Nat) (a1 : Int) (a2 : Int) (g : AMem) : jX_steps L a1 a2 g = (jX_isBelow L a2 5 g).bind (fun q1 => (jX_refusalFor L a1 q1.1 q1.2).bind (fun q2 => if q2.1 = 0 then ((jX_makePlan L 118 a1 q2.2).bind (fun q4 => if a2 = 0 then (some (q4 118 3, q4)) else (if a2 = 1 then ((jPl_countSort L 118 0 q4).bind (fun q7 => some (q7.1, q7.2))) else (if a2 = 2 then ((jPl_countSort L 118 1 q4).bind (fun q9 => some (q9.1, q9.2))) else (if a2 = 3 then ((jPl_countSort L 118 2 q4).bind (fun q11 => some (q11.1, q11.2))) else ((jPl_countToSpare L 118 q4).bind (fun q12 => some (q12.1, q12.2)))))))) else ((jX_refuse L q2.1 q2.2).bind (fun q13 => some (q13.1, q13.2))))) := by
  unfold jX_steps
  refine q_s (pc' := 1) (ls' := [vR 2, vI a1, vI a2, vU]) (st' := [vR 2]) (g' := g) k111_0 rfl rfl ?_
  refine q_s (pc' := 2) (ls' := [vR 2, vI a1, vI a2, vU]) (st' := [vI a1, vR 2]) (g' := g) k111_1 rfl rfl ?_
  refine q_s (pc' := 3) (ls' := [vR 2, vI a1, vI a2, vU]) (st' := [vI a2, vI a1, vR 2]) (g' := g) k111_2 rfl rfl ?_
  refine q_s (pc' := 4) (ls' := [vR 2, vI a1, vI a2, vU]) (st' := [vI 5, vI a2, vI a1, vR 2]) (g' := g) k111_3 rfl rfl ?_
  refine q_callI (ls0 := [vI a2, vI 5]) (rest := [vI a1, vR 2]) (pc' := 7) rfl k111_4 rfl (hy4 rfl rfl rfl rfl) rfl rfl hq_13 rfl (fun q1 => ?_)
  refine q_callI (ls0 := [vR 2, vI a1, vI q1.1]) (rest := []) (pc' := 10) rfl k111_7 rfl (hy4 rfl rfl rfl rfl) rfl rfl hq_109 rfl (fun q2 => ?_)
  refine q_s (pc' := 11) (ls' := [vR 2, vI a1, vI a2, vI q2.1]) (st' := []) (g' := q2.2) k111_10 rfl rfl ?_
  refine q_s (pc' := 12) (ls' := [vR 2, vI a1, vI a2, vI q2.1]) (st' := [vI q2.1]) (g' := q2.2) k111_11 rfl rfl ?_
  refine q_if (P := q2.1 = 0) (t := 21) (pc' := 15) k111_12 Iff.rfl rfl rfl (fun h3 => ?_) (fun h3 => ?_)
  · refine q_s (pc' := 22) (ls' := [vR 2, vI a1, vI a2, vI q2.1]) (st' := [vR 2]) (g' := q2.2) k111_21 rfl rfl ?_
    refine q_s (pc' := 23) (ls' := [vR 2, vI a1, vI a2, vI q2.1]) (st' := [vR 2, vR 2]) (g' := q2.2) k111_22 rfl rfl ?_
    refine q_getF (r := 118) (pc' := 26) k111_23 rfl rfl rfl rfl ?_
    refine q_s (pc' := 27) (ls' := [vR 2, vI a1, vI a2, vI q2.1]) (st' := [vI a1, vR 118, vR 2]) (g' := q2.2) k111_26 rfl rfl ?_
    refine q_callV (ls0 := [vR 2, vR 118, vI a1]) (rest := []) (pc' := 30) rfl k111_27 rfl (hy4 rfl rfl rfl rfl) rfl rfl hq_110 rfl (fun q4 => ?_)
    refine q_s (pc' := 31) (ls' := [vR 2, vI a1, vI a2, vI q2.1]) (st' := [vI a2]) (g' := q4) k111_30 rfl rfl ?_
    refine q_by (P := a2 = 0) (fun h5 => ?_) (fun h5 => ?_)
    · refine q_s (pc' := 60) (ls' := [vR 2, vI a1, vI a2, vI q2.1]) (st' := []) (g' := q4) k111_31 rfl (e_top h5 rfl) ?_
      refine q_s (pc' := 61) (ls' := [vR 2, vI a1, vI a2, vI q2.1]) (st' := [vR 2]) (g' := q4) k111_60 rfl rfl ?_
      refine q_getF (r := 118) (pc' := 64) k111_61 rfl rfl rfl rfl ?_
      refine q_getI (w := 3) (pc' := 67) k111_64 rfl rfl rfl rfl ?_
      exact q_e k111_67 rfl rfl rfl
    · skip
      refine q_by (P := a2 = 1) (fun h6 => ?_) (fun h6 => ?_)
      · refine q_s (pc' := 68) (ls' := [vR 2, vI a1, vI a2, vI q2.1]) (st' := []) (g' := q4) k111_31 rfl (e_top h6 rfl) ?_
        refine q_s (pc' := 69) (ls' := [vR 2, vI a1, vI a2, vI q2.1]) (st' := [vR 2]) (g' := q4) k111_68 rfl rfl ?_
        refine q_getF (r := 118) (pc' := 72) k111_69 rfl rfl rfl rfl ?_
        refine q_s (pc' := 73) (ls' := [vR 2, vI a1, vI a2, vI q2.1]) (st' := [vI 0, vR 118]) (g' := q4) k111_72 rfl rfl ?_
        refine q_callI (ls0 := [vR 118, vI 0, vU, vU]) (rest := []) (pc' := 76) rfl k111_73 rfl (hy4 rfl rfl rfl rfl) rfl rfl hq_65 rfl (fun q7 => ?_)
        exact q_e k111_76 rfl rfl rfl
      · skip
        refine q_by (P := a2 = 2) (fun h8 => ?_) (fun h8 => ?_)
        · refine q_s (pc' := 77) (ls' := [vR 2, vI a1, vI a2, vI q2.1]) (st' := []) (g' := q4) k111_31 rfl (e_top h8 rfl) ?_
          refine q_s (pc' := 78) (ls' := [vR 2, vI a1, vI a2, vI q2.1]) (st' := [vR 2]) (g' := q4) k111_77 rfl rfl ?_
          refine q_getF (r := 118) (pc' := 81) k111_78 rfl rfl rfl rfl ?_
          refine q_s (pc' := 82) (ls' := [vR 2, vI a1, vI a2, vI q2.1]) (st' := [vI 1, vR 118]) (g' := q4) k111_81 rfl rfl ?_
          refine q_callI (ls0 := [vR 118, vI 1, vU, vU]) (rest := []) (pc' := 85) rfl k111_82 rfl (hy4 rfl rfl rfl rfl) rfl rfl hq_65 rfl (fun q9 => ?_)
          exact q_e k111_85 rfl rfl rfl
        · skip
          refine q_by (P := a2 = 3) (fun h10 => ?_) (fun h10 => ?_)
          · refine q_s (pc' := 86) (ls' := [vR 2, vI a1, vI a2, vI q2.1]) (st' := []) (g' := q4) k111_31 rfl (e_top h10 rfl) ?_
            refine q_s (pc' := 87) (ls' := [vR 2, vI a1, vI a2, vI q2.1]) (st' := [vR 2]) (g' := q4) k111_86 rfl rfl ?_
            refine q_getF (r := 118) (pc' := 90) k111_87 rfl rfl rfl rfl ?_
            refine q_s (pc' := 91) (ls' := [vR 2, vI a1, vI a2, vI q2.1]) (st' := [vI 2, vR 118]) (g' := q4) k111_90 rfl rfl ?_
            refine q_callI (ls0 := [vR 118, vI 2, vU, vU]) (rest := []) (pc' := 94) rfl k111_91 rfl (hy4 rfl rfl rfl rfl) rfl rfl hq_65 rfl (fun q11 => ?_)
            exact q_e k111_94 rfl rfl rfl
          · skip
            refine q_s (pc' := 95) (ls' := [vR 2, vI a1, vI a2, vI q2.1]) (st' := []) (g' := q4) k111_31 rfl (e_tsw (by omega) (by decide)) ?_
            refine q_s (pc' := 96) (ls' := [vR 2, vI a1, vI a2, vI q2.1]) (st' := [vR 2]) (g' := q4) k111_95 rfl rfl ?_
            refine q_getF (r := 118) (pc' := 99) k111_96 rfl rfl rfl rfl ?_
            refine q_callI (ls0 := [vR 118, vU, vU]) (rest := []) (pc' := 102) rfl k111_99 rfl (hy4 rfl rfl rfl rfl) rfl rfl hq_66 rfl (fun q12 => ?_)
            exact q_e k111_102 rfl rfl rfl
  · refine q_s (pc' := 16) (ls' := [vR 2, vI a1, vI a2, vI q2.1]) (st' := [vR 2]) (g' := q2.2) k111_15 rfl rfl ?_
    refine q_s (pc' := 17) (ls' := [vR 2, vI a1, vI a2, vI q2.1]) (st' := [vI q2.1, vR 2]) (g' := q2.2) k111_16 rfl rfl ?_
    refine q_callI (ls0 := [vR 2, vI q2.1]) (rest := []) (pc' := 20) rfl k111_17 rfl (hy4 rfl rfl rfl rfl) rfl rfl hq_94 rfl (fun q13 => ?_)
    exact q_e k111_20 rfl rfl rfl
set_option maxHeartbeats 4000000 in
theorem jX_step_eq (L : Nat) (a1 : Int) (a2 : Int) (a3 : Int) (g : AMem) : jX_step L a1 a2 a3 g = if a2 < 0 then ((jX_refusalFor L a1 0 g).bind (fun q2 => if q2.1 = 0 then ((jX_makePlan L 118 a1 q2.2).bind (fun q4 => if a2 < q4 118 3 then (if a3 = 0 then (if 0 ≤ a2 ∧ a2 < 9 then (some (q4 119 a2, q4)) else none) else (if a3 = 1 then (if 0 ≤ a2 ∧ a2 < 9 then (some (q4 120 a2, q4)) else none) else (if 0 ≤ a2 ∧ a2 < 9 then (some (q4 121 a2, q4)) else none))) else (some ((-201), q4)))) else ((jX_refuse L q2.1 q2.2).bind (fun q11 => some (q11.1, q11.2))))) else ((jX_isBelow L a3 3 g).bind (fun q12 => if q12.1 = 0 then ((jX_refusalFor L a1 0 q12.2).bind (fun q14 => if q14.1 = 0 then ((jX_makePlan L 118 a1 q14.2).bind (fun q16 => if a2 < q16 118 3 then (if a3 = 0 then (if 0 ≤ a2 ∧ a2 < 9 then (some (q16 119 a2, q16)) else none) else (if a3 = 1 then (if 0 ≤ a2 ∧ a2 < 9 then (some (q16 120 a2, q16)) else none) else (if 0 ≤ a2 ∧ a2 < 9 then (some (q16 121 a2, q16)) else none))) else (some ((-201), q16)))) else ((jX_refuse L q14.1 q14.2).bind (fun q23 => some (q23.1, q23.2))))) else ((jX_refusalFor L a1 1 q12.2).bind (fun q24 => if q24.1 = 0 then ((jX_makePlan L 118 a1 q24.2).bind (fun q26 => if a2 < q26 118 3 then (if a3 = 0 then (if 0 ≤ a2 ∧ a2 < 9 then (some (q26 119 a2, q26)) else none) else (if a3 = 1 then (if 0 ≤ a2 ∧ a2 < 9 then (some (q26 120 a2, q26)) else none) else (if 0 ≤ a2 ∧ a2 < 9 then (some (q26 121 a2, q26)) else none))) else (some ((-201), q26)))) else ((jX_refuse L q24.1 q24.2).bind (fun q33 => some (q33.1, q33.2))))))) := by
  unfold jX_step
  refine q_s (pc' := 1) (ls' := [vR 2, vI a1, vI a2, vI a3, vU]) (st' := [vR 2]) (g' := g) k112_0 rfl rfl ?_
  refine q_s (pc' := 2) (ls' := [vR 2, vI a1, vI a2, vI a3, vU]) (st' := [vI a1, vR 2]) (g' := g) k112_1 rfl rfl ?_
  refine q_s (pc' := 3) (ls' := [vR 2, vI a1, vI a2, vI a3, vU]) (st' := [vI a2, vI a1, vR 2]) (g' := g) k112_2 rfl rfl ?_
  refine q_if (P := a2 < 0) (t := 18) (pc' := 6) k112_3 Iff.rfl rfl rfl (fun h1 => ?_) (fun h1 => ?_)
  · refine q_s (pc' := 19) (ls' := [vR 2, vI a1, vI a2, vI a3, vU]) (st' := [vI 0, vI a1, vR 2]) (g' := g) k112_18 rfl rfl ?_
    refine q_callI (ls0 := [vR 2, vI a1, vI 0]) (rest := []) (pc' := 22) rfl k112_19 rfl (hy4 rfl rfl rfl rfl) rfl rfl hq_109 rfl (fun q2 => ?_)
    refine q_s (pc' := 24) (ls' := [vR 2, vI a1, vI a2, vI a3, vI q2.1]) (st' := []) (g' := q2.2) k112_22 rfl rfl ?_
    refine q_s (pc' := 26) (ls' := [vR 2, vI a1, vI a2, vI a3, vI q2.1]) (st' := [vI q2.1]) (g' := q2.2) k112_24 rfl rfl ?_
    refine q_if (P := q2.1 = 0) (t := 36) (pc' := 29) k112_26 Iff.rfl rfl rfl (fun h3 => ?_) (fun h3 => ?_)
    · refine q_s (pc' := 37) (ls' := [vR 2, vI a1, vI a2, vI a3, vI q2.1]) (st' := [vR 2]) (g' := q2.2) k112_36 rfl rfl ?_
      refine q_s (pc' := 38) (ls' := [vR 2, vI a1, vI a2, vI a3, vI q2.1]) (st' := [vR 2, vR 2]) (g' := q2.2) k112_37 rfl rfl ?_
      refine q_getF (r := 118) (pc' := 41) k112_38 rfl rfl rfl rfl ?_
      refine q_s (pc' := 42) (ls' := [vR 2, vI a1, vI a2, vI a3, vI q2.1]) (st' := [vI a1, vR 118, vR 2]) (g' := q2.2) k112_41 rfl rfl ?_
      refine q_callV (ls0 := [vR 2, vR 118, vI a1]) (rest := []) (pc' := 45) rfl k112_42 rfl (hy4 rfl rfl rfl rfl) rfl rfl hq_110 rfl (fun q4 => ?_)
      refine q_s (pc' := 46) (ls' := [vR 2, vI a1, vI a2, vI a3, vI q2.1]) (st' := [vI a2]) (g' := q4) k112_45 rfl rfl ?_
      refine q_s (pc' := 47) (ls' := [vR 2, vI a1, vI a2, vI a3, vI q2.1]) (st' := [vR 2, vI a2]) (g' := q4) k112_46 rfl rfl ?_
      refine q_getF (r := 118) (pc' := 50) k112_47 rfl rfl rfl rfl ?_
      refine q_getI (w := 3) (pc' := 53) k112_50 rfl rfl rfl rfl ?_
      refine q_ic (P := a2 < q4 118 3) (t := 60) (pc' := 56) k112_53 Iff.rfl rfl rfl (fun h5 => ?_) (fun h5 => ?_)
      · refine q_s (pc' := 61) (ls' := [vR 2, vI a1, vI a2, vI a3, vI q2.1]) (st' := [vI a3]) (g' := q4) k112_60 rfl rfl ?_
        refine q_by (P := a3 = 0) (fun h6 => ?_) (fun h6 => ?_)
        · refine q_s (pc' := 88) (ls' := [vR 2, vI a1, vI a2, vI a3, vI q2.1]) (st' := []) (g' := q4) k112_61 rfl (e_top h6 rfl) ?_
          refine q_s (pc' := 89) (ls' := [vR 2, vI a1, vI a2, vI a3, vI q2.1]) (st' := [vR 2]) (g' := q4) k112_88 rfl rfl ?_
          refine q_getF (r := 118) (pc' := 92) k112_89 rfl rfl rfl rfl ?_
          refine q_getF (r := 119) (pc' := 95) k112_92 rfl rfl rfl rfl ?_
          refine q_s (pc' := 96) (ls' := [vR 2, vI a1, vI a2, vI a3, vI q2.1]) (st' := [vI a2, vR 119]) (g' := q4) k112_95 rfl rfl ?_
          refine q_iald (n := 9) (pc' := 97) rfl k112_96 rfl rfl (fun h7 => ?_)
          exact q_e k112_97 rfl rfl rfl
        · skip
          refine q_by (P := a3 = 1) (fun h8 => ?_) (fun h8 => ?_)
          · refine q_s (pc' := 98) (ls' := [vR 2, vI a1, vI a2, vI a3, vI q2.1]) (st' := []) (g' := q4) k112_61 rfl (e_top h8 rfl) ?_
            refine q_s (pc' := 99) (ls' := [vR 2, vI a1, vI a2, vI a3, vI q2.1]) (st' := [vR 2]) (g' := q4) k112_98 rfl rfl ?_
            refine q_getF (r := 118) (pc' := 102) k112_99 rfl rfl rfl rfl ?_
            refine q_getF (r := 120) (pc' := 105) k112_102 rfl rfl rfl rfl ?_
            refine q_s (pc' := 106) (ls' := [vR 2, vI a1, vI a2, vI a3, vI q2.1]) (st' := [vI a2, vR 120]) (g' := q4) k112_105 rfl rfl ?_
            refine q_iald (n := 9) (pc' := 107) rfl k112_106 rfl rfl (fun h9 => ?_)
            exact q_e k112_107 rfl rfl rfl
          · skip
            refine q_s (pc' := 108) (ls' := [vR 2, vI a1, vI a2, vI a3, vI q2.1]) (st' := []) (g' := q4) k112_61 rfl (e_lsw2 h6 h8) ?_
            refine q_s (pc' := 109) (ls' := [vR 2, vI a1, vI a2, vI a3, vI q2.1]) (st' := [vR 2]) (g' := q4) k112_108 rfl rfl ?_
            refine q_getF (r := 118) (pc' := 112) k112_109 rfl rfl rfl rfl ?_
            refine q_getF (r := 121) (pc' := 115) k112_112 rfl rfl rfl rfl ?_
            refine q_s (pc' := 116) (ls' := [vR 2, vI a1, vI a2, vI a3, vI q2.1]) (st' := [vI a2, vR 121]) (g' := q4) k112_115 rfl rfl ?_
            refine q_iald (n := 9) (pc' := 117) rfl k112_116 rfl rfl (fun h10 => ?_)
            exact q_e k112_117 rfl rfl rfl
      · refine q_s (pc' := 59) (ls' := [vR 2, vI a1, vI a2, vI a3, vI q2.1]) (st' := [vI (-201)]) (g' := q4) k112_56 rfl rfl ?_
        exact q_e k112_59 rfl rfl rfl
    · refine q_s (pc' := 30) (ls' := [vR 2, vI a1, vI a2, vI a3, vI q2.1]) (st' := [vR 2]) (g' := q2.2) k112_29 rfl rfl ?_
      refine q_s (pc' := 32) (ls' := [vR 2, vI a1, vI a2, vI a3, vI q2.1]) (st' := [vI q2.1, vR 2]) (g' := q2.2) k112_30 rfl rfl ?_
      refine q_callI (ls0 := [vR 2, vI q2.1]) (rest := []) (pc' := 35) rfl k112_32 rfl (hy4 rfl rfl rfl rfl) rfl rfl hq_94 rfl (fun q11 => ?_)
      exact q_e k112_35 rfl rfl rfl
  · refine q_s (pc' := 7) (ls' := [vR 2, vI a1, vI a2, vI a3, vU]) (st' := [vI a3, vI a1, vR 2]) (g' := g) k112_6 rfl rfl ?_
    refine q_s (pc' := 8) (ls' := [vR 2, vI a1, vI a2, vI a3, vU]) (st' := [vI 3, vI a3, vI a1, vR 2]) (g' := g) k112_7 rfl rfl ?_
    refine q_callI (ls0 := [vI a3, vI 3]) (rest := [vI a1, vR 2]) (pc' := 11) rfl k112_8 rfl (hy4 rfl rfl rfl rfl) rfl rfl hq_13 rfl (fun q12 => ?_)
    refine q_if (P := q12.1 = 0) (t := 18) (pc' := 14) k112_11 Iff.rfl rfl rfl (fun h13 => ?_) (fun h13 => ?_)
    · refine q_s (pc' := 19) (ls' := [vR 2, vI a1, vI a2, vI a3, vU]) (st' := [vI 0, vI a1, vR 2]) (g' := q12.2) k112_18 rfl rfl ?_
      refine q_callI (ls0 := [vR 2, vI a1, vI 0]) (rest := []) (pc' := 22) rfl k112_19 rfl (hy4 rfl rfl rfl rfl) rfl rfl hq_109 rfl (fun q14 => ?_)
      refine q_s (pc' := 24) (ls' := [vR 2, vI a1, vI a2, vI a3, vI q14.1]) (st' := []) (g' := q14.2) k112_22 rfl rfl ?_
      refine q_s (pc' := 26) (ls' := [vR 2, vI a1, vI a2, vI a3, vI q14.1]) (st' := [vI q14.1]) (g' := q14.2) k112_24 rfl rfl ?_
      refine q_if (P := q14.1 = 0) (t := 36) (pc' := 29) k112_26 Iff.rfl rfl rfl (fun h15 => ?_) (fun h15 => ?_)
      · refine q_s (pc' := 37) (ls' := [vR 2, vI a1, vI a2, vI a3, vI q14.1]) (st' := [vR 2]) (g' := q14.2) k112_36 rfl rfl ?_
        refine q_s (pc' := 38) (ls' := [vR 2, vI a1, vI a2, vI a3, vI q14.1]) (st' := [vR 2, vR 2]) (g' := q14.2) k112_37 rfl rfl ?_
        refine q_getF (r := 118) (pc' := 41) k112_38 rfl rfl rfl rfl ?_
        refine q_s (pc' := 42) (ls' := [vR 2, vI a1, vI a2, vI a3, vI q14.1]) (st' := [vI a1, vR 118, vR 2]) (g' := q14.2) k112_41 rfl rfl ?_
        refine q_callV (ls0 := [vR 2, vR 118, vI a1]) (rest := []) (pc' := 45) rfl k112_42 rfl (hy4 rfl rfl rfl rfl) rfl rfl hq_110 rfl (fun q16 => ?_)
        refine q_s (pc' := 46) (ls' := [vR 2, vI a1, vI a2, vI a3, vI q14.1]) (st' := [vI a2]) (g' := q16) k112_45 rfl rfl ?_
        refine q_s (pc' := 47) (ls' := [vR 2, vI a1, vI a2, vI a3, vI q14.1]) (st' := [vR 2, vI a2]) (g' := q16) k112_46 rfl rfl ?_
        refine q_getF (r := 118) (pc' := 50) k112_47 rfl rfl rfl rfl ?_
        refine q_getI (w := 3) (pc' := 53) k112_50 rfl rfl rfl rfl ?_
        refine q_ic (P := a2 < q16 118 3) (t := 60) (pc' := 56) k112_53 Iff.rfl rfl rfl (fun h17 => ?_) (fun h17 => ?_)
        · refine q_s (pc' := 61) (ls' := [vR 2, vI a1, vI a2, vI a3, vI q14.1]) (st' := [vI a3]) (g' := q16) k112_60 rfl rfl ?_
          refine q_by (P := a3 = 0) (fun h18 => ?_) (fun h18 => ?_)
          · refine q_s (pc' := 88) (ls' := [vR 2, vI a1, vI a2, vI a3, vI q14.1]) (st' := []) (g' := q16) k112_61 rfl (e_top h18 rfl) ?_
            refine q_s (pc' := 89) (ls' := [vR 2, vI a1, vI a2, vI a3, vI q14.1]) (st' := [vR 2]) (g' := q16) k112_88 rfl rfl ?_
            refine q_getF (r := 118) (pc' := 92) k112_89 rfl rfl rfl rfl ?_
            refine q_getF (r := 119) (pc' := 95) k112_92 rfl rfl rfl rfl ?_
            refine q_s (pc' := 96) (ls' := [vR 2, vI a1, vI a2, vI a3, vI q14.1]) (st' := [vI a2, vR 119]) (g' := q16) k112_95 rfl rfl ?_
            refine q_iald (n := 9) (pc' := 97) rfl k112_96 rfl rfl (fun h19 => ?_)
            exact q_e k112_97 rfl rfl rfl
          · skip
            refine q_by (P := a3 = 1) (fun h20 => ?_) (fun h20 => ?_)
            · refine q_s (pc' := 98) (ls' := [vR 2, vI a1, vI a2, vI a3, vI q14.1]) (st' := []) (g' := q16) k112_61 rfl (e_top h20 rfl) ?_
              refine q_s (pc' := 99) (ls' := [vR 2, vI a1, vI a2, vI a3, vI q14.1]) (st' := [vR 2]) (g' := q16) k112_98 rfl rfl ?_
              refine q_getF (r := 118) (pc' := 102) k112_99 rfl rfl rfl rfl ?_
              refine q_getF (r := 120) (pc' := 105) k112_102 rfl rfl rfl rfl ?_
              refine q_s (pc' := 106) (ls' := [vR 2, vI a1, vI a2, vI a3, vI q14.1]) (st' := [vI a2, vR 120]) (g' := q16) k112_105 rfl rfl ?_
              refine q_iald (n := 9) (pc' := 107) rfl k112_106 rfl rfl (fun h21 => ?_)
              exact q_e k112_107 rfl rfl rfl
            · skip
              refine q_s (pc' := 108) (ls' := [vR 2, vI a1, vI a2, vI a3, vI q14.1]) (st' := []) (g' := q16) k112_61 rfl (e_lsw2 h18 h20) ?_
              refine q_s (pc' := 109) (ls' := [vR 2, vI a1, vI a2, vI a3, vI q14.1]) (st' := [vR 2]) (g' := q16) k112_108 rfl rfl ?_
              refine q_getF (r := 118) (pc' := 112) k112_109 rfl rfl rfl rfl ?_
              refine q_getF (r := 121) (pc' := 115) k112_112 rfl rfl rfl rfl ?_
              refine q_s (pc' := 116) (ls' := [vR 2, vI a1, vI a2, vI a3, vI q14.1]) (st' := [vI a2, vR 121]) (g' := q16) k112_115 rfl rfl ?_
              refine q_iald (n := 9) (pc' := 117) rfl k112_116 rfl rfl (fun h22 => ?_)
              exact q_e k112_117 rfl rfl rfl
        · refine q_s (pc' := 59) (ls' := [vR 2, vI a1, vI a2, vI a3, vI q14.1]) (st' := [vI (-201)]) (g' := q16) k112_56 rfl rfl ?_
          exact q_e k112_59 rfl rfl rfl
      · refine q_s (pc' := 30) (ls' := [vR 2, vI a1, vI a2, vI a3, vI q14.1]) (st' := [vR 2]) (g' := q14.2) k112_29 rfl rfl ?_
        refine q_s (pc' := 32) (ls' := [vR 2, vI a1, vI a2, vI a3, vI q14.1]) (st' := [vI q14.1, vR 2]) (g' := q14.2) k112_30 rfl rfl ?_
        refine q_callI (ls0 := [vR 2, vI q14.1]) (rest := []) (pc' := 35) rfl k112_32 rfl (hy4 rfl rfl rfl rfl) rfl rfl hq_94 rfl (fun q23 => ?_)
        exact q_e k112_35 rfl rfl rfl
    · refine q_s (pc' := 15) (ls' := [vR 2, vI a1, vI a2, vI a3, vU]) (st' := [vI 1, vI a1, vR 2]) (g' := q12.2) k112_14 rfl rfl ?_
      refine q_s (pc' := 19) (ls' := [vR 2, vI a1, vI a2, vI a3, vU]) (st' := [vI 1, vI a1, vR 2]) (g' := q12.2) k112_15 rfl rfl ?_
      refine q_callI (ls0 := [vR 2, vI a1, vI 1]) (rest := []) (pc' := 22) rfl k112_19 rfl (hy4 rfl rfl rfl rfl) rfl rfl hq_109 rfl (fun q24 => ?_)
      refine q_s (pc' := 24) (ls' := [vR 2, vI a1, vI a2, vI a3, vI q24.1]) (st' := []) (g' := q24.2) k112_22 rfl rfl ?_
      refine q_s (pc' := 26) (ls' := [vR 2, vI a1, vI a2, vI a3, vI q24.1]) (st' := [vI q24.1]) (g' := q24.2) k112_24 rfl rfl ?_
      refine q_if (P := q24.1 = 0) (t := 36) (pc' := 29) k112_26 Iff.rfl rfl rfl (fun h25 => ?_) (fun h25 => ?_)
      · refine q_s (pc' := 37) (ls' := [vR 2, vI a1, vI a2, vI a3, vI q24.1]) (st' := [vR 2]) (g' := q24.2) k112_36 rfl rfl ?_
        refine q_s (pc' := 38) (ls' := [vR 2, vI a1, vI a2, vI a3, vI q24.1]) (st' := [vR 2, vR 2]) (g' := q24.2) k112_37 rfl rfl ?_
        refine q_getF (r := 118) (pc' := 41) k112_38 rfl rfl rfl rfl ?_
        refine q_s (pc' := 42) (ls' := [vR 2, vI a1, vI a2, vI a3, vI q24.1]) (st' := [vI a1, vR 118, vR 2]) (g' := q24.2) k112_41 rfl rfl ?_
        refine q_callV (ls0 := [vR 2, vR 118, vI a1]) (rest := []) (pc' := 45) rfl k112_42 rfl (hy4 rfl rfl rfl rfl) rfl rfl hq_110 rfl (fun q26 => ?_)
        refine q_s (pc' := 46) (ls' := [vR 2, vI a1, vI a2, vI a3, vI q24.1]) (st' := [vI a2]) (g' := q26) k112_45 rfl rfl ?_
        refine q_s (pc' := 47) (ls' := [vR 2, vI a1, vI a2, vI a3, vI q24.1]) (st' := [vR 2, vI a2]) (g' := q26) k112_46 rfl rfl ?_
        refine q_getF (r := 118) (pc' := 50) k112_47 rfl rfl rfl rfl ?_
        refine q_getI (w := 3) (pc' := 53) k112_50 rfl rfl rfl rfl ?_
        refine q_ic (P := a2 < q26 118 3) (t := 60) (pc' := 56) k112_53 Iff.rfl rfl rfl (fun h27 => ?_) (fun h27 => ?_)
        · refine q_s (pc' := 61) (ls' := [vR 2, vI a1, vI a2, vI a3, vI q24.1]) (st' := [vI a3]) (g' := q26) k112_60 rfl rfl ?_
          refine q_by (P := a3 = 0) (fun h28 => ?_) (fun h28 => ?_)
          · refine q_s (pc' := 88) (ls' := [vR 2, vI a1, vI a2, vI a3, vI q24.1]) (st' := []) (g' := q26) k112_61 rfl (e_top h28 rfl) ?_
            refine q_s (pc' := 89) (ls' := [vR 2, vI a1, vI a2, vI a3, vI q24.1]) (st' := [vR 2]) (g' := q26) k112_88 rfl rfl ?_
            refine q_getF (r := 118) (pc' := 92) k112_89 rfl rfl rfl rfl ?_
            refine q_getF (r := 119) (pc' := 95) k112_92 rfl rfl rfl rfl ?_
            refine q_s (pc' := 96) (ls' := [vR 2, vI a1, vI a2, vI a3, vI q24.1]) (st' := [vI a2, vR 119]) (g' := q26) k112_95 rfl rfl ?_
            refine q_iald (n := 9) (pc' := 97) rfl k112_96 rfl rfl (fun h29 => ?_)
            exact q_e k112_97 rfl rfl rfl
          · skip
            refine q_by (P := a3 = 1) (fun h30 => ?_) (fun h30 => ?_)
            · refine q_s (pc' := 98) (ls' := [vR 2, vI a1, vI a2, vI a3, vI q24.1]) (st' := []) (g' := q26) k112_61 rfl (e_top h30 rfl) ?_
              refine q_s (pc' := 99) (ls' := [vR 2, vI a1, vI a2, vI a3, vI q24.1]) (st' := [vR 2]) (g' := q26) k112_98 rfl rfl ?_
              refine q_getF (r := 118) (pc' := 102) k112_99 rfl rfl rfl rfl ?_
              refine q_getF (r := 120) (pc' := 105) k112_102 rfl rfl rfl rfl ?_
              refine q_s (pc' := 106) (ls' := [vR 2, vI a1, vI a2, vI a3, vI q24.1]) (st' := [vI a2, vR 120]) (g' := q26) k112_105 rfl rfl ?_
              refine q_iald (n := 9) (pc' := 107) rfl k112_106 rfl rfl (fun h31 => ?_)
              exact q_e k112_107 rfl rfl rfl
            · skip
              refine q_s (pc' := 108) (ls' := [vR 2, vI a1, vI a2, vI a3, vI q24.1]) (st' := []) (g' := q26) k112_61 rfl (e_lsw2 h28 h30) ?_
              refine q_s (pc' := 109) (ls' := [vR 2, vI a1, vI a2, vI a3, vI q24.1]) (st' := [vR 2]) (g' := q26) k112_108 rfl rfl ?_
              refine q_getF (r := 118) (pc' := 112) k112_109 rfl rfl rfl rfl ?_
              refine q_getF (r := 121) (pc' := 115) k112_112 rfl rfl rfl rfl ?_
              refine q_s (pc' := 116) (ls' := [vR 2, vI a1, vI a2, vI a3, vI q24.1]) (st' := [vI a2, vR 121]) (g' := q26) k112_115 rfl rfl ?_
              refine q_iald (n := 9) (pc' := 117) rfl k112_116 rfl rfl (fun h32 => ?_)
              exact q_e k112_117 rfl rfl rfl
        · refine q_s (pc' := 59) (ls' := [vR 2, vI a1, vI a2, vI a3, vI q24.1]) (st' := [vI (-201)]) (g' := q26) k112_56 rfl rfl ?_
          exact q_e k112_59 rfl rfl rfl
      · refine q_s (pc' := 30) (ls' := [vR 2, vI a1, vI a2, vI a3, vI q24.1]) (st' := [vR 2]) (g' := q24.2) k112_29 rfl rfl ?_
        refine q_s (pc' := 32) (ls' := [vR 2, vI a1, vI a2, vI a3, vI q24.1]) (st' := [vI q24.1, vR 2]) (g' := q24.2) k112_30 rfl rfl ?_
        refine q_callI (ls0 := [vR 2, vI q24.1]) (rest := []) (pc' := 35) rfl k112_32 rfl (hy4 rfl rfl rfl rfl) rfl rfl hq_94 rfl (fun q33 => ?_)
        exact q_e k112_35 rfl rfl rfl
set_option maxHeartbeats 4000000 in
theorem jX_cost_eq (L : Nat) (a1 : Int) (g : AMem) : jX_cost L a1 g = (jX_refusalFor L a1 1 g).bind (fun q1 => if q1.1 = 0 then ((jX_makePlan L 118 a1 q1.2).bind (fun q3 => (jPl_price L 118 q3).bind (fun q4 => some (q4.1, q4.2)))) else ((jX_refuse L q1.1 q1.2).bind (fun q5 => some (q5.1, q5.2)))) := by
  unfold jX_cost
  refine q_s (pc' := 1) (ls' := [vR 2, vI a1, vU]) (st' := [vR 2]) (g' := g) k113_0 rfl rfl ?_
  refine q_s (pc' := 2) (ls' := [vR 2, vI a1, vU]) (st' := [vI a1, vR 2]) (g' := g) k113_1 rfl rfl ?_
  refine q_s (pc' := 3) (ls' := [vR 2, vI a1, vU]) (st' := [vI 1, vI a1, vR 2]) (g' := g) k113_2 rfl rfl ?_
  refine q_callI (ls0 := [vR 2, vI a1, vI 1]) (rest := []) (pc' := 6) rfl k113_3 rfl (hy4 rfl rfl rfl rfl) rfl rfl hq_109 rfl (fun q1 => ?_)
  refine q_s (pc' := 7) (ls' := [vR 2, vI a1, vI q1.1]) (st' := []) (g' := q1.2) k113_6 rfl rfl ?_
  refine q_s (pc' := 8) (ls' := [vR 2, vI a1, vI q1.1]) (st' := [vI q1.1]) (g' := q1.2) k113_7 rfl rfl ?_
  refine q_if (P := q1.1 = 0) (t := 17) (pc' := 11) k113_8 Iff.rfl rfl rfl (fun h2 => ?_) (fun h2 => ?_)
  · refine q_s (pc' := 18) (ls' := [vR 2, vI a1, vI q1.1]) (st' := [vR 2]) (g' := q1.2) k113_17 rfl rfl ?_
    refine q_s (pc' := 19) (ls' := [vR 2, vI a1, vI q1.1]) (st' := [vR 2, vR 2]) (g' := q1.2) k113_18 rfl rfl ?_
    refine q_getF (r := 118) (pc' := 22) k113_19 rfl rfl rfl rfl ?_
    refine q_s (pc' := 23) (ls' := [vR 2, vI a1, vI q1.1]) (st' := [vI a1, vR 118, vR 2]) (g' := q1.2) k113_22 rfl rfl ?_
    refine q_callV (ls0 := [vR 2, vR 118, vI a1]) (rest := []) (pc' := 26) rfl k113_23 rfl (hy4 rfl rfl rfl rfl) rfl rfl hq_110 rfl (fun q3 => ?_)
    refine q_s (pc' := 27) (ls' := [vR 2, vI a1, vI q1.1]) (st' := [vR 2]) (g' := q3) k113_26 rfl rfl ?_
    refine q_getF (r := 118) (pc' := 30) k113_27 rfl rfl rfl rfl ?_
    refine q_callI (ls0 := [vR 118, vU, vU, vU]) (rest := []) (pc' := 33) rfl k113_30 rfl (hy4 rfl rfl rfl rfl) rfl rfl hq_67 rfl (fun q4 => ?_)
    exact q_e k113_33 rfl rfl rfl
  · refine q_s (pc' := 12) (ls' := [vR 2, vI a1, vI q1.1]) (st' := [vR 2]) (g' := q1.2) k113_11 rfl rfl ?_
    refine q_s (pc' := 13) (ls' := [vR 2, vI a1, vI q1.1]) (st' := [vI q1.1, vR 2]) (g' := q1.2) k113_12 rfl rfl ?_
    refine q_callI (ls0 := [vR 2, vI q1.1]) (rest := []) (pc' := 16) rfl k113_13 rfl (hy4 rfl rfl rfl rfl) rfl rfl hq_94 rfl (fun q5 => ?_)
    exact q_e k113_16 rfl rfl rfl
set_option maxHeartbeats 4000000 in
theorem jX_rings_eq (L : Nat) (a1 : Int) (a2 : Int) (g : AMem) : jX_rings L a1 a2 g = (jX_isBelow L a2 3 g).bind (fun q1 => (jX_refusalFor L a1 q1.1 q1.2).bind (fun q2 => if q2.1 = 0 then (if kin (SH L) (q2.2 2 0) = 3 then (if 0 ≤ a1 ∧ a1 < 16 then (if 0 ≤ q2.2 (q2.2 2 0 + 23 + 2 * a1) 2 ∧ q2.2 (q2.2 2 0 + 23 + 2 * a1) 2 < 10 then (if kin (SH L) (q2.2 2 0) = 3 then (if 0 ≤ a1 ∧ a1 < 16 then ((jHo_look L (q2.2 2 0 + 2 + 2 * (q2.2 (q2.2 2 0 + 23 + 2 * a1) 2)) (q2.2 2 0 + 23 + 2 * a1) q2.2).bind (fun q10 => if a2 = 0 then ((jHo_countRings L q10).bind (fun q12 => some (q12.1, q12.2))) else (if a2 = 1 then ((jHo_longestRing L q10).bind (fun q14 => some (q14.1, q14.2))) else ((jHo_countOpenOutsideRings L q10).bind (fun q15 => some (q15.1, q15.2)))))) else none) else none) else none) else none) else none) else ((jX_refuse L q2.1 q2.2).bind (fun q16 => some (q16.1, q16.2))))) := by
  unfold jX_rings
  refine q_s (pc' := 1) (ls' := [vR 2, vI a1, vI a2, vU]) (st' := [vR 2]) (g' := g) k114_0 rfl rfl ?_
  refine q_s (pc' := 2) (ls' := [vR 2, vI a1, vI a2, vU]) (st' := [vI a1, vR 2]) (g' := g) k114_1 rfl rfl ?_
  refine q_s (pc' := 3) (ls' := [vR 2, vI a1, vI a2, vU]) (st' := [vI a2, vI a1, vR 2]) (g' := g) k114_2 rfl rfl ?_
  refine q_s (pc' := 4) (ls' := [vR 2, vI a1, vI a2, vU]) (st' := [vI 3, vI a2, vI a1, vR 2]) (g' := g) k114_3 rfl rfl ?_
  refine q_callI (ls0 := [vI a2, vI 3]) (rest := [vI a1, vR 2]) (pc' := 7) rfl k114_4 rfl (hy4 rfl rfl rfl rfl) rfl rfl hq_13 rfl (fun q1 => ?_)
  refine q_callI (ls0 := [vR 2, vI a1, vI q1.1]) (rest := []) (pc' := 10) rfl k114_7 rfl (hy4 rfl rfl rfl rfl) rfl rfl hq_109 rfl (fun q2 => ?_)
  refine q_s (pc' := 11) (ls' := [vR 2, vI a1, vI a2, vI q2.1]) (st' := []) (g' := q2.2) k114_10 rfl rfl ?_
  refine q_s (pc' := 12) (ls' := [vR 2, vI a1, vI a2, vI q2.1]) (st' := [vI q2.1]) (g' := q2.2) k114_11 rfl rfl ?_
  refine q_if (P := q2.1 = 0) (t := 21) (pc' := 15) k114_12 Iff.rfl rfl rfl (fun h3 => ?_) (fun h3 => ?_)
  · refine q_s (pc' := 22) (ls' := [vR 2, vI a1, vI a2, vI q2.1]) (st' := [vR 2]) (g' := q2.2) k114_21 rfl rfl ?_
    refine q_getF (r := 116) (pc' := 25) k114_22 rfl rfl rfl rfl ?_
    refine q_s (pc' := 26) (ls' := [vR 2, vI a1, vI a2, vI q2.1]) (st' := [vR 2, vR 116]) (g' := q2.2) k114_25 rfl rfl ?_
    refine q_getM (w := 0) (c := 3) (pc' := 29) rfl k114_26 rfl rfl rfl rfl rfl (fun h4 => ?_)
    refine q_s (pc' := 30) (ls' := [vR 2, vI a1, vI a2, vI q2.1]) (st' := [vI a1, vR (q2.2 2 0), vR 116]) (g' := q2.2) k114_29 rfl rfl ?_
    refine q_goal (t := q2.2 2 0) (e := a1) (pc' := 33) rfl k114_30 h4 rfl rfl (fun h6 h7 => ?_)
    refine q_s (pc' := 34) (ls' := [vR 2, vI a1, vI a2, vI q2.1]) (st' := [vR 2, vR (q2.2 2 0 + 2 + 2 * (q2.2 (q2.2 2 0 + 23 + 2 * a1) 2)), vR 116]) (g' := q2.2) k114_33 rfl rfl ?_
    refine q_getM (w := 0) (c := 3) (pc' := 37) rfl k114_34 rfl rfl rfl rfl rfl (fun h8 => ?_)
    refine q_getF (r := q2.2 2 0 + 22) (pc' := 40) k114_37 h8 rfl (kG_f h8).2.1 rfl ?_
    refine q_s (pc' := 41) (ls' := [vR 2, vI a1, vI a2, vI q2.1]) (st' := [vI a1, vR (q2.2 2 0 + 22), vR (q2.2 2 0 + 2 + 2 * (q2.2 (q2.2 2 0 + 23 + 2 * a1) 2)), vR 116]) (g' := q2.2) k114_40 rfl rfl ?_
    refine q_aald (n := 16) (pc' := 42) rfl k114_41 (kG_f h8).2.2.2 rfl (q2.2 2 0 + 23 + 2 * a1) (fun h => (kG_e h8 h.1 h.2).1) (fun h9 => ?_)
    refine q_callV (ls0 := [vR 116, vR (q2.2 2 0 + 2 + 2 * (q2.2 (q2.2 2 0 + 23 + 2 * a1) 2)), vR (q2.2 2 0 + 23 + 2 * a1)]) (rest := []) (pc' := 45) rfl k114_42 rfl (hy4 rfl rfl rfl rfl) rfl rfl hq_24 rfl (fun q10 => ?_)
    refine q_s (pc' := 46) (ls' := [vR 2, vI a1, vI a2, vI q2.1]) (st' := [vI a2]) (g' := q10) k114_45 rfl rfl ?_
    refine q_by (P := a2 = 0) (fun h11 => ?_) (fun h11 => ?_)
    · refine q_s (pc' := 72) (ls' := [vR 2, vI a1, vI a2, vI q2.1]) (st' := []) (g' := q10) k114_46 rfl (e_top h11 rfl) ?_
      refine q_s (pc' := 73) (ls' := [vR 2, vI a1, vI a2, vI q2.1]) (st' := [vR 2]) (g' := q10) k114_72 rfl rfl ?_
      refine q_getF (r := 116) (pc' := 76) k114_73 rfl rfl rfl rfl ?_
      refine q_callI (ls0 := [vR 116, vU, vU]) (rest := []) (pc' := 79) rfl k114_76 rfl (hy4 rfl rfl rfl rfl) rfl rfl hq_35 rfl (fun q12 => ?_)
      exact q_e k114_79 rfl rfl rfl
    · skip
      refine q_by (P := a2 = 1) (fun h13 => ?_) (fun h13 => ?_)
      · refine q_s (pc' := 80) (ls' := [vR 2, vI a1, vI a2, vI q2.1]) (st' := []) (g' := q10) k114_46 rfl (e_top h13 rfl) ?_
        refine q_s (pc' := 81) (ls' := [vR 2, vI a1, vI a2, vI q2.1]) (st' := [vR 2]) (g' := q10) k114_80 rfl rfl ?_
        refine q_getF (r := 116) (pc' := 84) k114_81 rfl rfl rfl rfl ?_
        refine q_callI (ls0 := [vR 116, vU, vU]) (rest := []) (pc' := 87) rfl k114_84 rfl (hy4 rfl rfl rfl rfl) rfl rfl hq_36 rfl (fun q14 => ?_)
        exact q_e k114_87 rfl rfl rfl
      · skip
        refine q_s (pc' := 88) (ls' := [vR 2, vI a1, vI a2, vI q2.1]) (st' := []) (g' := q10) k114_46 rfl (e_lsw2 h11 h13) ?_
        refine q_s (pc' := 89) (ls' := [vR 2, vI a1, vI a2, vI q2.1]) (st' := [vR 2]) (g' := q10) k114_88 rfl rfl ?_
        refine q_getF (r := 116) (pc' := 92) k114_89 rfl rfl rfl rfl ?_
        refine q_callI (ls0 := [vR 116]) (rest := []) (pc' := 95) rfl k114_92 rfl (hy4 rfl rfl rfl rfl) rfl rfl hq_37 rfl (fun q15 => ?_)
        exact q_e k114_95 rfl rfl rfl
  · refine q_s (pc' := 16) (ls' := [vR 2, vI a1, vI a2, vI q2.1]) (st' := [vR 2]) (g' := q2.2) k114_15 rfl rfl ?_
    refine q_s (pc' := 17) (ls' := [vR 2, vI a1, vI a2, vI q2.1]) (st' := [vI q2.1, vR 2]) (g' := q2.2) k114_16 rfl rfl ?_
    refine q_callI (ls0 := [vR 2, vI q2.1]) (rest := []) (pc' := 20) rfl k114_17 rfl (hy4 rfl rfl rfl rfl) rfl rfl hq_94 rfl (fun q16 => ?_)
    exact q_e k114_20 rfl rfl rfl
set_option maxHeartbeats 4000000 in
theorem jX_priceBy_eq (L : Nat) (a1 : Int) (a2 : Int) (g : AMem) : jX_priceBy L a1 a2 g = if kin (SH L) (g 2 0) = 3 then (if 0 ≤ a1 ∧ a1 < 16 then (if 0 ≤ g (g 2 0 + 23 + 2 * a1) 2 ∧ g (g 2 0 + 23 + 2 * a1) 2 < 10 then (if kin (SH L) (g 2 0) = 3 then (if 0 ≤ a1 ∧ a1 < 16 then ((jHo_look L (g 2 0 + 2 + 2 * (g (g 2 0 + 23 + 2 * a1) 2)) (g 2 0 + 23 + 2 * a1) g).bind (fun q7 => (jPl_make L 118 a2 q7).bind (fun q8 => (jPl_price L 118 q8).bind (fun q9 => some (q9.1, q9.2))))) else none) else none) else none) else none) else none := by
  unfold jX_priceBy
  refine q_s (pc' := 1) (ls' := [vR 2, vI a1, vI a2]) (st' := [vR 2]) (g' := g) k115_0 rfl rfl ?_
  refine q_getF (r := 116) (pc' := 4) k115_1 rfl rfl rfl rfl ?_
  refine q_s (pc' := 5) (ls' := [vR 2, vI a1, vI a2]) (st' := [vR 2, vR 116]) (g' := g) k115_4 rfl rfl ?_
  refine q_getM (w := 0) (c := 3) (pc' := 8) rfl k115_5 rfl rfl rfl rfl rfl (fun h1 => ?_)
  refine q_s (pc' := 9) (ls' := [vR 2, vI a1, vI a2]) (st' := [vI a1, vR (g 2 0), vR 116]) (g' := g) k115_8 rfl rfl ?_
  refine q_goal (t := g 2 0) (e := a1) (pc' := 12) rfl k115_9 h1 rfl rfl (fun h3 h4 => ?_)
  refine q_s (pc' := 13) (ls' := [vR 2, vI a1, vI a2]) (st' := [vR 2, vR (g 2 0 + 2 + 2 * (g (g 2 0 + 23 + 2 * a1) 2)), vR 116]) (g' := g) k115_12 rfl rfl ?_
  refine q_getM (w := 0) (c := 3) (pc' := 16) rfl k115_13 rfl rfl rfl rfl rfl (fun h5 => ?_)
  refine q_getF (r := g 2 0 + 22) (pc' := 19) k115_16 h5 rfl (kG_f h5).2.1 rfl ?_
  refine q_s (pc' := 20) (ls' := [vR 2, vI a1, vI a2]) (st' := [vI a1, vR (g 2 0 + 22), vR (g 2 0 + 2 + 2 * (g (g 2 0 + 23 + 2 * a1) 2)), vR 116]) (g' := g) k115_19 rfl rfl ?_
  refine q_aald (n := 16) (pc' := 21) rfl k115_20 (kG_f h5).2.2.2 rfl (g 2 0 + 23 + 2 * a1) (fun h => (kG_e h5 h.1 h.2).1) (fun h6 => ?_)
  refine q_callV (ls0 := [vR 116, vR (g 2 0 + 2 + 2 * (g (g 2 0 + 23 + 2 * a1) 2)), vR (g 2 0 + 23 + 2 * a1)]) (rest := []) (pc' := 24) rfl k115_21 rfl (hy4 rfl rfl rfl rfl) rfl rfl hq_24 rfl (fun q7 => ?_)
  refine q_s (pc' := 25) (ls' := [vR 2, vI a1, vI a2]) (st' := [vR 2]) (g' := q7) k115_24 rfl rfl ?_
  refine q_getF (r := 118) (pc' := 28) k115_25 rfl rfl rfl rfl ?_
  refine q_s (pc' := 29) (ls' := [vR 2, vI a1, vI a2]) (st' := [vR 2, vR 118]) (g' := q7) k115_28 rfl rfl ?_
  refine q_getF (r := 116) (pc' := 32) k115_29 rfl rfl rfl rfl ?_
  refine q_s (pc' := 33) (ls' := [vR 2, vI a1, vI a2]) (st' := [vI a2, vR 116, vR 118]) (g' := q7) k115_32 rfl rfl ?_
  refine q_callV (ls0 := [vR 118, vR 116, vI a2, vU, vU]) (rest := []) (pc' := 36) rfl k115_33 rfl (hy4 rfl rfl rfl rfl) rfl rfl hq_64 rfl (fun q8 => ?_)
  refine q_s (pc' := 37) (ls' := [vR 2, vI a1, vI a2]) (st' := [vR 2]) (g' := q8) k115_36 rfl rfl ?_
  refine q_getF (r := 118) (pc' := 40) k115_37 rfl rfl rfl rfl ?_
  refine q_callI (ls0 := [vR 118, vU, vU, vU]) (rest := []) (pc' := 43) rfl k115_40 rfl (hy4 rfl rfl rfl rfl) rfl rfl hq_67 rfl (fun q9 => ?_)
  exact q_e k115_43 rfl rfl rfl
set_option maxHeartbeats 4000000 in
theorem jX_cheapest_eq (L : Nat) (a1 : Int) (a2 : Int) (g : AMem) : jX_cheapest L a1 a2 g = (jX_isBelow L a2 2 g).bind (fun q1 => (jX_refusalFor L a1 q1.1 q1.2).bind (fun q2 => if q2.1 = 0 then ((jX_priceBy L a1 0 q2.2).bind (fun q4 => jX_cheapest_35 L a1 a2 q2.1 0 q4.1 1 vU q4.2)) else ((jX_refuse L q2.1 q2.2).bind (fun q5 => some (q5.1, q5.2))))) := by
  unfold jX_cheapest
  refine q_s (pc' := 1) (ls' := [vR 2, vI a1, vI a2, vU, vU, vU, vU, vU]) (st' := [vR 2]) (g' := g) k116_0 rfl rfl ?_
  refine q_s (pc' := 2) (ls' := [vR 2, vI a1, vI a2, vU, vU, vU, vU, vU]) (st' := [vI a1, vR 2]) (g' := g) k116_1 rfl rfl ?_
  refine q_s (pc' := 3) (ls' := [vR 2, vI a1, vI a2, vU, vU, vU, vU, vU]) (st' := [vI a2, vI a1, vR 2]) (g' := g) k116_2 rfl rfl ?_
  refine q_s (pc' := 4) (ls' := [vR 2, vI a1, vI a2, vU, vU, vU, vU, vU]) (st' := [vI 2, vI a2, vI a1, vR 2]) (g' := g) k116_3 rfl rfl ?_
  refine q_callI (ls0 := [vI a2, vI 2]) (rest := [vI a1, vR 2]) (pc' := 7) rfl k116_4 rfl (hy4 rfl rfl rfl rfl) rfl rfl hq_13 rfl (fun q1 => ?_)
  refine q_callI (ls0 := [vR 2, vI a1, vI q1.1]) (rest := []) (pc' := 10) rfl k116_7 rfl (hy4 rfl rfl rfl rfl) rfl rfl hq_109 rfl (fun q2 => ?_)
  refine q_s (pc' := 11) (ls' := [vR 2, vI a1, vI a2, vI q2.1, vU, vU, vU, vU]) (st' := []) (g' := q2.2) k116_10 rfl rfl ?_
  refine q_s (pc' := 12) (ls' := [vR 2, vI a1, vI a2, vI q2.1, vU, vU, vU, vU]) (st' := [vI q2.1]) (g' := q2.2) k116_11 rfl rfl ?_
  refine q_if (P := q2.1 = 0) (t := 21) (pc' := 15) k116_12 Iff.rfl rfl rfl (fun h3 => ?_) (fun h3 => ?_)
  · refine q_s (pc' := 22) (ls' := [vR 2, vI a1, vI a2, vI q2.1, vU, vU, vU, vU]) (st' := [vI 0]) (g' := q2.2) k116_21 rfl rfl ?_
    refine q_s (pc' := 24) (ls' := [vR 2, vI a1, vI a2, vI q2.1, vI 0, vU, vU, vU]) (st' := []) (g' := q2.2) k116_22 rfl rfl ?_
    refine q_s (pc' := 25) (ls' := [vR 2, vI a1, vI a2, vI q2.1, vI 0, vU, vU, vU]) (st' := [vR 2]) (g' := q2.2) k116_24 rfl rfl ?_
    refine q_s (pc' := 26) (ls' := [vR 2, vI a1, vI a2, vI q2.1, vI 0, vU, vU, vU]) (st' := [vI a1, vR 2]) (g' := q2.2) k116_25 rfl rfl ?_
    refine q_s (pc' := 27) (ls' := [vR 2, vI a1, vI a2, vI q2.1, vI 0, vU, vU, vU]) (st' := [vI 0, vI a1, vR 2]) (g' := q2.2) k116_26 rfl rfl ?_
    refine q_callI (ls0 := [vR 2, vI a1, vI 0]) (rest := []) (pc' := 30) rfl k116_27 rfl (hy4 rfl rfl rfl rfl) rfl rfl hq_115 rfl (fun q4 => ?_)
    refine q_s (pc' := 32) (ls' := [vR 2, vI a1, vI a2, vI q2.1, vI 0, vI q4.1, vU, vU]) (st' := []) (g' := q4.2) k116_30 rfl rfl ?_
    refine q_s (pc' := 33) (ls' := [vR 2, vI a1, vI a2, vI q2.1, vI 0, vI q4.1, vU, vU]) (st' := [vI 1]) (g' := q4.2) k116_32 rfl rfl ?_
    refine q_s (pc' := 35) (ls' := [vR 2, vI a1, vI a2, vI q2.1, vI 0, vI q4.1, vI 1, vU]) (st' := []) (g' := q4.2) k116_33 rfl rfl ?_
    rfl
  · refine q_s (pc' := 16) (ls' := [vR 2, vI a1, vI a2, vI q2.1, vU, vU, vU, vU]) (st' := [vR 2]) (g' := q2.2) k116_15 rfl rfl ?_
    refine q_s (pc' := 17) (ls' := [vR 2, vI a1, vI a2, vI q2.1, vU, vU, vU, vU]) (st' := [vI q2.1, vR 2]) (g' := q2.2) k116_16 rfl rfl ?_
    refine q_callI (ls0 := [vR 2, vI q2.1]) (rest := []) (pc' := 20) rfl k116_17 rfl (hy4 rfl rfl rfl rfl) rfl rfl hq_94 rfl (fun q5 => ?_)
    exact q_e k116_20 rfl rfl rfl
set_option maxHeartbeats 4000000 in
theorem jX_cheapest_35_eq (L : Nat) (l1 : Int) (l2 : Int) (l3 : Int) (l4 : Int) (l5 : Int) (l6 : Int) (w7 : AVal) (g : AMem) : jX_cheapest_35 L l1 l2 l3 l4 l5 l6 w7 g = if 5 ≤ l6 then (if l2 ≠ 0 then (some (l5, g)) else (some (l4, g))) else ((jX_priceBy L l1 l6 g).bind (fun q8 => if l5 ≤ q8.1 then (jX_cheapest_35 L l1 l2 l3 l4 l5 (iw (l6 + 1)) (vI q8.1) q8.2) else (jX_cheapest_35 L l1 l2 l3 l6 q8.1 (iw (l6 + 1)) (vI q8.1) q8.2))) := by
  unfold jX_cheapest_35
  refine q_s (pc' := 37) (ls' := [vR 2, vI l1, vI l2, vI l3, vI l4, vI l5, vI l6, w7]) (st' := [vI l6]) (g' := g) k116_35 rfl rfl ?_
  refine q_s (pc' := 38) (ls' := [vR 2, vI l1, vI l2, vI l3, vI l4, vI l5, vI l6, w7]) (st' := [vI 5, vI l6]) (g' := g) k116_37 rfl rfl ?_
  refine q_ic (P := 5 ≤ l6) (t := 71) (pc' := 41) k116_38 Iff.rfl rfl rfl (fun h6 => ?_) (fun h6 => ?_)
  · refine q_s (pc' := 72) (ls' := [vR 2, vI l1, vI l2, vI l3, vI l4, vI l5, vI l6, w7]) (st' := [vI l2]) (g' := g) k116_71 rfl rfl ?_
    refine q_if (P := l2 ≠ 0) (t := 80) (pc' := 75) k116_72 Iff.rfl rfl rfl (fun h7 => ?_) (fun h7 => ?_)
    · refine q_s (pc' := 82) (ls' := [vR 2, vI l1, vI l2, vI l3, vI l4, vI l5, vI l6, w7]) (st' := [vI l5]) (g' := g) k116_80 rfl rfl ?_
      exact q_e k116_82 rfl rfl rfl
    · refine q_s (pc' := 77) (ls' := [vR 2, vI l1, vI l2, vI l3, vI l4, vI l5, vI l6, w7]) (st' := [vI l4]) (g' := g) k116_75 rfl rfl ?_
      refine q_s (pc' := 82) (ls' := [vR 2, vI l1, vI l2, vI l3, vI l4, vI l5, vI l6, w7]) (st' := [vI l4]) (g' := g) k116_77 rfl rfl ?_
      exact q_e k116_82 rfl rfl rfl
  · refine q_s (pc' := 42) (ls' := [vR 2, vI l1, vI l2, vI l3, vI l4, vI l5, vI l6, w7]) (st' := [vR 2]) (g' := g) k116_41 rfl rfl ?_
    refine q_s (pc' := 43) (ls' := [vR 2, vI l1, vI l2, vI l3, vI l4, vI l5, vI l6, w7]) (st' := [vI l1, vR 2]) (g' := g) k116_42 rfl rfl ?_
    refine q_s (pc' := 45) (ls' := [vR 2, vI l1, vI l2, vI l3, vI l4, vI l5, vI l6, w7]) (st' := [vI l6, vI l1, vR 2]) (g' := g) k116_43 rfl rfl ?_
    refine q_callI (ls0 := [vR 2, vI l1, vI l6]) (rest := []) (pc' := 48) rfl k116_45 rfl (hy4 rfl rfl rfl rfl) rfl rfl hq_115 rfl (fun q8 => ?_)
    refine q_s (pc' := 50) (ls' := [vR 2, vI l1, vI l2, vI l3, vI l4, vI l5, vI l6, vI q8.1]) (st' := []) (g' := q8.2) k116_48 rfl rfl ?_
    refine q_s (pc' := 52) (ls' := [vR 2, vI l1, vI l2, vI l3, vI l4, vI l5, vI l6, vI q8.1]) (st' := [vI q8.1]) (g' := q8.2) k116_50 rfl rfl ?_
    refine q_s (pc' := 54) (ls' := [vR 2, vI l1, vI l2, vI l3, vI l4, vI l5, vI l6, vI q8.1]) (st' := [vI l5, vI q8.1]) (g' := q8.2) k116_52 rfl rfl ?_
    refine q_ic (P := l5 ≤ q8.1) (t := 65) (pc' := 57) k116_54 Iff.rfl rfl rfl (fun h9 => ?_) (fun h9 => ?_)
    · refine q_s (pc' := 68) (ls' := [vR 2, vI l1, vI l2, vI l3, vI l4, vI l5, vI (iw (l6 + 1)), vI q8.1]) (st' := []) (g' := q8.2) k116_65 rfl rfl ?_
      refine q_s (pc' := 35) (ls' := [vR 2, vI l1, vI l2, vI l3, vI l4, vI l5, vI (iw (l6 + 1)), vI q8.1]) (st' := []) (g' := q8.2) k116_68 rfl rfl ?_
      rfl
    · refine q_s (pc' := 59) (ls' := [vR 2, vI l1, vI l2, vI l3, vI l4, vI l5, vI l6, vI q8.1]) (st' := [vI l6]) (g' := q8.2) k116_57 rfl rfl ?_
      refine q_s (pc' := 61) (ls' := [vR 2, vI l1, vI l2, vI l3, vI l6, vI l5, vI l6, vI q8.1]) (st' := []) (g' := q8.2) k116_59 rfl rfl ?_
      refine q_s (pc' := 63) (ls' := [vR 2, vI l1, vI l2, vI l3, vI l6, vI l5, vI l6, vI q8.1]) (st' := [vI q8.1]) (g' := q8.2) k116_61 rfl rfl ?_
      refine q_s (pc' := 65) (ls' := [vR 2, vI l1, vI l2, vI l3, vI l6, vI q8.1, vI l6, vI q8.1]) (st' := []) (g' := q8.2) k116_63 rfl rfl ?_
      refine q_s (pc' := 68) (ls' := [vR 2, vI l1, vI l2, vI l3, vI l6, vI q8.1, vI (iw (l6 + 1)), vI q8.1]) (st' := []) (g' := q8.2) k116_65 rfl rfl ?_
      refine q_s (pc' := 35) (ls' := [vR 2, vI l1, vI l2, vI l3, vI l6, vI q8.1, vI (iw (l6 + 1)), vI q8.1]) (st' := []) (g' := q8.2) k116_68 rfl rfl ?_
      rfl
set_option maxHeartbeats 4000000 in
theorem jX_free_eq (L : Nat) (a1 : Int) (a2 : Int) (g : AMem) : jX_free L a1 a2 g = if kin (SH L) (g 2 0) = 3 then ((jGr_hasEdge L (g 2 0) a1 g).bind (fun q2 => if q2.1 = 0 then ((jX_refuse L (-202) q2.2).bind (fun q4 => some (q4.1, q4.2))) else ((jRg_isWidth L a2 q2.2).bind (fun q5 => if q5.1 ≠ 0 then (if kin (SH L) (q5.2 2 0) = 3 then (if 0 ≤ a1 ∧ a1 < 16 then (if 0 ≤ q5.2 (q5.2 2 0 + 23 + 2 * a1) 2 ∧ q5.2 (q5.2 2 0 + 23 + 2 * a1) 2 < 10 then (if kin (SH L) (q5.2 2 0) = 3 then (if 0 ≤ a1 ∧ a1 < 16 then ((jHo_look L (q5.2 2 0 + 2 + 2 * (q5.2 (q5.2 2 0 + 23 + 2 * a1) 2)) (q5.2 2 0 + 23 + 2 * a1) q5.2).bind (fun q13 => jX_free_52 L a1 a2 0 vU q13)) else none) else none) else none) else none) else none) else ((jX_refuse L (-202) q5.2).bind (fun q14 => some (q14.1, q14.2))))))) else none := by
  unfold jX_free
  refine q_s (pc' := 1) (ls' := [vR 2, vI a1, vI a2, vU, vU]) (st' := [vR 2]) (g' := g) k117_0 rfl rfl ?_
  refine q_getM (w := 0) (c := 3) (pc' := 4) rfl k117_1 rfl rfl rfl rfl rfl (fun h1 => ?_)
  refine q_s (pc' := 5) (ls' := [vR 2, vI a1, vI a2, vU, vU]) (st' := [vI a1, vR (g 2 0)]) (g' := g) k117_4 rfl rfl ?_
  refine q_callI (ls0 := [vR (g 2 0), vI a1]) (rest := []) (pc' := 8) rfl k117_5 rfl (hy4 rfl rfl (rcv0 rfl h1) rfl) rfl rfl hq_15 rfl (fun q2 => ?_)
  refine q_if (P := q2.1 = 0) (t := 18) (pc' := 11) k117_8 Iff.rfl rfl rfl (fun h3 => ?_) (fun h3 => ?_)
  · refine q_s (pc' := 19) (ls' := [vR 2, vI a1, vI a2, vU, vU]) (st' := [vR 2]) (g' := q2.2) k117_18 rfl rfl ?_
    refine q_s (pc' := 22) (ls' := [vR 2, vI a1, vI a2, vU, vU]) (st' := [vI (-202), vR 2]) (g' := q2.2) k117_19 rfl rfl ?_
    refine q_callI (ls0 := [vR 2, vI (-202)]) (rest := []) (pc' := 25) rfl k117_22 rfl (hy4 rfl rfl rfl rfl) rfl rfl hq_94 rfl (fun q4 => ?_)
    exact q_e k117_25 rfl rfl rfl
  · refine q_s (pc' := 12) (ls' := [vR 2, vI a1, vI a2, vU, vU]) (st' := [vI a2]) (g' := q2.2) k117_11 rfl rfl ?_
    refine q_callI (ls0 := [vI a2]) (rest := []) (pc' := 15) rfl k117_12 rfl (hy4 rfl rfl rfl rfl) rfl rfl hq_76 rfl (fun q5 => ?_)
    refine q_if (P := q5.1 ≠ 0) (t := 26) (pc' := 18) k117_15 Iff.rfl rfl rfl (fun h6 => ?_) (fun h6 => ?_)
    · refine q_s (pc' := 27) (ls' := [vR 2, vI a1, vI a2, vU, vU]) (st' := [vR 2]) (g' := q5.2) k117_26 rfl rfl ?_
      refine q_getF (r := 116) (pc' := 30) k117_27 rfl rfl rfl rfl ?_
      refine q_s (pc' := 31) (ls' := [vR 2, vI a1, vI a2, vU, vU]) (st' := [vR 2, vR 116]) (g' := q5.2) k117_30 rfl rfl ?_
      refine q_getM (w := 0) (c := 3) (pc' := 34) rfl k117_31 rfl rfl rfl rfl rfl (fun h7 => ?_)
      refine q_s (pc' := 35) (ls' := [vR 2, vI a1, vI a2, vU, vU]) (st' := [vI a1, vR (q5.2 2 0), vR 116]) (g' := q5.2) k117_34 rfl rfl ?_
      refine q_goal (t := q5.2 2 0) (e := a1) (pc' := 38) rfl k117_35 h7 rfl rfl (fun h9 h10 => ?_)
      refine q_s (pc' := 39) (ls' := [vR 2, vI a1, vI a2, vU, vU]) (st' := [vR 2, vR (q5.2 2 0 + 2 + 2 * (q5.2 (q5.2 2 0 + 23 + 2 * a1) 2)), vR 116]) (g' := q5.2) k117_38 rfl rfl ?_
      refine q_getM (w := 0) (c := 3) (pc' := 42) rfl k117_39 rfl rfl rfl rfl rfl (fun h11 => ?_)
      refine q_getF (r := q5.2 2 0 + 22) (pc' := 45) k117_42 h11 rfl (kG_f h11).2.1 rfl ?_
      refine q_s (pc' := 46) (ls' := [vR 2, vI a1, vI a2, vU, vU]) (st' := [vI a1, vR (q5.2 2 0 + 22), vR (q5.2 2 0 + 2 + 2 * (q5.2 (q5.2 2 0 + 23 + 2 * a1) 2)), vR 116]) (g' := q5.2) k117_45 rfl rfl ?_
      refine q_aald (n := 16) (pc' := 47) rfl k117_46 (kG_f h11).2.2.2 rfl (q5.2 2 0 + 23 + 2 * a1) (fun h => (kG_e h11 h.1 h.2).1) (fun h12 => ?_)
      refine q_callV (ls0 := [vR 116, vR (q5.2 2 0 + 2 + 2 * (q5.2 (q5.2 2 0 + 23 + 2 * a1) 2)), vR (q5.2 2 0 + 23 + 2 * a1)]) (rest := []) (pc' := 50) rfl k117_47 rfl (hy4 rfl rfl rfl rfl) rfl rfl hq_24 rfl (fun q13 => ?_)
      refine q_s (pc' := 51) (ls' := [vR 2, vI a1, vI a2, vU, vU]) (st' := [vI 0]) (g' := q13) k117_50 rfl rfl ?_
      refine q_s (pc' := 52) (ls' := [vR 2, vI a1, vI a2, vI 0, vU]) (st' := []) (g' := q13) k117_51 rfl rfl ?_
      rfl
    · refine q_s (pc' := 19) (ls' := [vR 2, vI a1, vI a2, vU, vU]) (st' := [vR 2]) (g' := q5.2) k117_18 rfl rfl ?_
      refine q_s (pc' := 22) (ls' := [vR 2, vI a1, vI a2, vU, vU]) (st' := [vI (-202), vR 2]) (g' := q5.2) k117_19 rfl rfl ?_
      refine q_callI (ls0 := [vR 2, vI (-202)]) (rest := []) (pc' := 25) rfl k117_22 rfl (hy4 rfl rfl rfl rfl) rfl rfl hq_94 rfl (fun q14 => ?_)
      exact q_e k117_25 rfl rfl rfl
set_option maxHeartbeats 4000000 in
theorem jX_free_52_eq (L : Nat) (l1 : Int) (l2 : Int) (l3 : Int) (w4 : AVal) (g : AMem) : jX_free_52 L l1 l2 l3 w4 g = if 32 < iw (l3 + l2) then (some ((-201), g)) else ((jRg_asTold L l3 l2 g).bind (fun q16 => (jHo_touches L q16.1 q16.2).bind (fun q17 => if q17.1 ≠ 0 then (jX_free_52 L l1 l2 (iw (l3 + l2)) (vI q16.1) q17.2) else (some (q16.1, q17.2))))) := by
  unfold jX_free_52
  refine q_s (pc' := 53) (ls' := [vR 2, vI l1, vI l2, vI l3, w4]) (st' := [vI l3]) (g' := g) k117_52 rfl rfl ?_
  refine q_s (pc' := 54) (ls' := [vR 2, vI l1, vI l2, vI l3, w4]) (st' := [vI l2, vI l3]) (g' := g) k117_53 rfl rfl ?_
  refine q_s (pc' := 55) (ls' := [vR 2, vI l1, vI l2, vI l3, w4]) (st' := [vI (iw (l3 + l2))]) (g' := g) k117_54 rfl rfl ?_
  refine q_s (pc' := 57) (ls' := [vR 2, vI l1, vI l2, vI l3, w4]) (st' := [vI 32, vI (iw (l3 + l2))]) (g' := g) k117_55 rfl rfl ?_
  refine q_ic (P := 32 < iw (l3 + l2)) (t := 89) (pc' := 60) k117_57 Iff.rfl rfl rfl (fun h15 => ?_) (fun h15 => ?_)
  · refine q_s (pc' := 92) (ls' := [vR 2, vI l1, vI l2, vI l3, w4]) (st' := [vI (-201)]) (g' := g) k117_89 rfl rfl ?_
    exact q_e k117_92 rfl rfl rfl
  · refine q_s (pc' := 61) (ls' := [vR 2, vI l1, vI l2, vI l3, w4]) (st' := [vI l3]) (g' := g) k117_60 rfl rfl ?_
    refine q_s (pc' := 62) (ls' := [vR 2, vI l1, vI l2, vI l3, w4]) (st' := [vI l2, vI l3]) (g' := g) k117_61 rfl rfl ?_
    refine q_callI (ls0 := [vI l3, vI l2]) (rest := []) (pc' := 65) rfl k117_62 rfl (hy4 rfl rfl rfl rfl) rfl rfl hq_60 rfl (fun q16 => ?_)
    refine q_s (pc' := 67) (ls' := [vR 2, vI l1, vI l2, vI l3, vI q16.1]) (st' := []) (g' := q16.2) k117_65 rfl rfl ?_
    refine q_s (pc' := 68) (ls' := [vR 2, vI l1, vI l2, vI l3, vI q16.1]) (st' := [vR 2]) (g' := q16.2) k117_67 rfl rfl ?_
    refine q_getF (r := 116) (pc' := 71) k117_68 rfl rfl rfl rfl ?_
    refine q_s (pc' := 73) (ls' := [vR 2, vI l1, vI l2, vI l3, vI q16.1]) (st' := [vI q16.1, vR 116]) (g' := q16.2) k117_71 rfl rfl ?_
    refine q_callI (ls0 := [vR 116, vI q16.1, vU]) (rest := []) (pc' := 76) rfl k117_73 rfl (hy4 rfl rfl rfl rfl) rfl rfl hq_30 rfl (fun q17 => ?_)
    refine q_if (P := q17.1 ≠ 0) (t := 82) (pc' := 79) k117_76 Iff.rfl rfl rfl (fun h18 => ?_) (fun h18 => ?_)
    · refine q_s (pc' := 83) (ls' := [vR 2, vI l1, vI l2, vI l3, vI q16.1]) (st' := [vI l3]) (g' := q17.2) k117_82 rfl rfl ?_
      refine q_s (pc' := 84) (ls' := [vR 2, vI l1, vI l2, vI l3, vI q16.1]) (st' := [vI l2, vI l3]) (g' := q17.2) k117_83 rfl rfl ?_
      refine q_s (pc' := 85) (ls' := [vR 2, vI l1, vI l2, vI l3, vI q16.1]) (st' := [vI (iw (l3 + l2))]) (g' := q17.2) k117_84 rfl rfl ?_
      refine q_s (pc' := 86) (ls' := [vR 2, vI l1, vI l2, vI (iw (l3 + l2)), vI q16.1]) (st' := []) (g' := q17.2) k117_85 rfl rfl ?_
      refine q_s (pc' := 52) (ls' := [vR 2, vI l1, vI l2, vI (iw (l3 + l2)), vI q16.1]) (st' := []) (g' := q17.2) k117_86 rfl rfl ?_
      rfl
    · refine q_s (pc' := 81) (ls' := [vR 2, vI l1, vI l2, vI l3, vI q16.1]) (st' := [vI q16.1]) (g' := q17.2) k117_79 rfl rfl ?_
      exact q_e k117_81 rfl rfl rfl
set_option maxHeartbeats 4000000 in
theorem jX_allClearTo_eq (L : Nat) (a1 : Int) (g : AMem) : jX_allClearTo L a1 g = jX_allClearTo_2 L a1 0 g := by
  unfold jX_allClearTo
  refine q_s (pc' := 1) (ls' := [vR 2, vI a1, vU]) (st' := [vI 0]) (g' := g) k118_0 rfl rfl ?_
  refine q_s (pc' := 2) (ls' := [vR 2, vI a1, vI 0]) (st' := []) (g' := g) k118_1 rfl rfl ?_
  rfl
set_option maxHeartbeats 4000000 in
theorem jX_allClearTo_2_eq (L : Nat) (l1 : Int) (l2 : Int) (g : AMem) : jX_allClearTo_2 L l1 l2 g = if kin (SH L) (g 2 0) = 3 then (if g (g 2 0) 3 ≤ l2 then (some (1, g)) else (if kin (SH L) (g 2 0) = 3 then (if 0 ≤ l2 ∧ l2 < 16 then (if g (g 2 0 + 23 + 2 * l2) 2 ≠ l1 then (jX_allClearTo_2 L l1 (iw (l2 + 1)) g) else ((jX_isClear L l2 g).bind (fun q6 => if q6.1 ≠ 0 then (jX_allClearTo_2 L l1 (iw (l2 + 1)) q6.2) else (some (0, q6.2))))) else none) else none)) else none := by
  unfold jX_allClearTo_2
  refine q_s (pc' := 3) (ls' := [vR 2, vI l1, vI l2]) (st' := [vI l2]) (g' := g) k118_2 rfl rfl ?_
  refine q_s (pc' := 4) (ls' := [vR 2, vI l1, vI l2]) (st' := [vR 2, vI l2]) (g' := g) k118_3 rfl rfl ?_
  refine q_getM (w := 0) (c := 3) (pc' := 7) rfl k118_4 rfl rfl rfl rfl rfl (fun h1 => ?_)
  refine q_getI (w := 3) (pc' := 10) k118_7 h1 rfl rfl rfl ?_
  refine q_ic (P := g (g 2 0) 3 ≤ l2) (t := 45) (pc' := 13) k118_10 Iff.rfl rfl rfl (fun h2 => ?_) (fun h2 => ?_)
  · refine q_s (pc' := 46) (ls' := [vR 2, vI l1, vI l2]) (st' := [vI 1]) (g' := g) k118_45 rfl rfl ?_
    exact q_e k118_46 rfl rfl rfl
  · refine q_s (pc' := 14) (ls' := [vR 2, vI l1, vI l2]) (st' := [vR 2]) (g' := g) k118_13 rfl rfl ?_
    refine q_getM (w := 0) (c := 3) (pc' := 17) rfl k118_14 rfl rfl rfl rfl rfl (fun h3 => ?_)
    refine q_getF (r := g 2 0 + 22) (pc' := 20) k118_17 h3 rfl (kG_f h3).2.1 rfl ?_
    refine q_s (pc' := 21) (ls' := [vR 2, vI l1, vI l2]) (st' := [vI l2, vR (g 2 0 + 22)]) (g' := g) k118_20 rfl rfl ?_
    refine q_aald (n := 16) (pc' := 22) rfl k118_21 (kG_f h3).2.2.2 rfl (g 2 0 + 23 + 2 * l2) (fun h => (kG_e h3 h.1 h.2).1) (fun h4 => ?_)
    refine q_getI (w := 2) (pc' := 25) k118_22 (kG_e h3 h4.1 h4.2).2 rfl rfl rfl ?_
    refine q_s (pc' := 26) (ls' := [vR 2, vI l1, vI l2]) (st' := [vI l1, vI (g (g 2 0 + 23 + 2 * l2) 2)]) (g' := g) k118_25 rfl rfl ?_
    refine q_ic (P := g (g 2 0 + 23 + 2 * l2) 2 ≠ l1) (t := 39) (pc' := 29) k118_26 Iff.rfl rfl rfl (fun h5 => ?_) (fun h5 => ?_)
    · refine q_s (pc' := 42) (ls' := [vR 2, vI l1, vI (iw (l2 + 1))]) (st' := []) (g' := g) k118_39 rfl rfl ?_
      refine q_s (pc' := 2) (ls' := [vR 2, vI l1, vI (iw (l2 + 1))]) (st' := []) (g' := g) k118_42 rfl rfl ?_
      rfl
    · refine q_s (pc' := 30) (ls' := [vR 2, vI l1, vI l2]) (st' := [vR 2]) (g' := g) k118_29 rfl rfl ?_
      refine q_s (pc' := 31) (ls' := [vR 2, vI l1, vI l2]) (st' := [vI l2, vR 2]) (g' := g) k118_30 rfl rfl ?_
      refine q_callI (ls0 := [vR 2, vI l2]) (rest := []) (pc' := 34) rfl k118_31 rfl (hy4 rfl rfl rfl rfl) rfl rfl hq_101 rfl (fun q6 => ?_)
      refine q_if (P := q6.1 ≠ 0) (t := 39) (pc' := 37) k118_34 Iff.rfl rfl rfl (fun h7 => ?_) (fun h7 => ?_)
      · refine q_s (pc' := 42) (ls' := [vR 2, vI l1, vI (iw (l2 + 1))]) (st' := []) (g' := q6.2) k118_39 rfl rfl ?_
        refine q_s (pc' := 2) (ls' := [vR 2, vI l1, vI (iw (l2 + 1))]) (st' := []) (g' := q6.2) k118_42 rfl rfl ?_
        rfl
      · refine q_s (pc' := 38) (ls' := [vR 2, vI l1, vI l2]) (st' := [vI 0]) (g' := q6.2) k118_37 rfl rfl ?_
        exact q_e k118_38 rfl rfl rfl
set_option maxHeartbeats 4000000 in
theorem jX_tail_eq (L : Nat) (a1 : Int) (g : AMem) : jX_tail L a1 g = if kin (SH L) (g 2 0) = 3 then ((jGr_hasBlock L (g 2 0) a1 g).bind (fun q2 => if q2.1 ≠ 0 then ((jX_allClearTo L a1 q2.2).bind (fun q4 => if q4.1 ≠ 0 then (jX_tail_42 L a1 0 1 0 q4.2) else ((jX_refuse L (-203) q4.2).bind (fun q6 => some (q6.1, q6.2))))) else ((jX_refuse L (-202) q2.2).bind (fun q7 => some (q7.1, q7.2))))) else none := by
  unfold jX_tail
  refine q_s (pc' := 1) (ls' := [vR 2, vI a1, vU, vU, vU]) (st' := [vR 2]) (g' := g) k119_0 rfl rfl ?_
  refine q_getM (w := 0) (c := 3) (pc' := 4) rfl k119_1 rfl rfl rfl rfl rfl (fun h1 => ?_)
  refine q_s (pc' := 5) (ls' := [vR 2, vI a1, vU, vU, vU]) (st' := [vI a1, vR (g 2 0)]) (g' := g) k119_4 rfl rfl ?_
  refine q_callI (ls0 := [vR (g 2 0), vI a1]) (rest := []) (pc' := 8) rfl k119_5 rfl (hy4 rfl rfl (rcv0 rfl h1) rfl) rfl rfl hq_14 rfl (fun q2 => ?_)
  refine q_if (P := q2.1 ≠ 0) (t := 19) (pc' := 11) k119_8 Iff.rfl rfl rfl (fun h3 => ?_) (fun h3 => ?_)
  · refine q_s (pc' := 20) (ls' := [vR 2, vI a1, vU, vU, vU]) (st' := [vR 2]) (g' := q2.2) k119_19 rfl rfl ?_
    refine q_s (pc' := 21) (ls' := [vR 2, vI a1, vU, vU, vU]) (st' := [vI a1, vR 2]) (g' := q2.2) k119_20 rfl rfl ?_
    refine q_callI (ls0 := [vR 2, vI a1, vU]) (rest := []) (pc' := 24) rfl k119_21 rfl (hy4 rfl rfl rfl rfl) rfl rfl hq_118 rfl (fun q4 => ?_)
    refine q_if (P := q4.1 ≠ 0) (t := 35) (pc' := 27) k119_24 Iff.rfl rfl rfl (fun h5 => ?_) (fun h5 => ?_)
    · refine q_s (pc' := 36) (ls' := [vR 2, vI a1, vU, vU, vU]) (st' := [vI 0]) (g' := q4.2) k119_35 rfl rfl ?_
      refine q_s (pc' := 37) (ls' := [vR 2, vI a1, vI 0, vU, vU]) (st' := []) (g' := q4.2) k119_36 rfl rfl ?_
      refine q_s (pc' := 38) (ls' := [vR 2, vI a1, vI 0, vU, vU]) (st' := [vI 1]) (g' := q4.2) k119_37 rfl rfl ?_
      refine q_s (pc' := 39) (ls' := [vR 2, vI a1, vI 0, vI 1, vU]) (st' := []) (g' := q4.2) k119_38 rfl rfl ?_
      refine q_s (pc' := 40) (ls' := [vR 2, vI a1, vI 0, vI 1, vU]) (st' := [vI 0]) (g' := q4.2) k119_39 rfl rfl ?_
      refine q_s (pc' := 42) (ls' := [vR 2, vI a1, vI 0, vI 1, vI 0]) (st' := []) (g' := q4.2) k119_40 rfl rfl ?_
      rfl
    · refine q_s (pc' := 28) (ls' := [vR 2, vI a1, vU, vU, vU]) (st' := [vR 2]) (g' := q4.2) k119_27 rfl rfl ?_
      refine q_s (pc' := 31) (ls' := [vR 2, vI a1, vU, vU, vU]) (st' := [vI (-203), vR 2]) (g' := q4.2) k119_28 rfl rfl ?_
      refine q_callI (ls0 := [vR 2, vI (-203)]) (rest := []) (pc' := 34) rfl k119_31 rfl (hy4 rfl rfl rfl rfl) rfl rfl hq_94 rfl (fun q6 => ?_)
      exact q_e k119_34 rfl rfl rfl
  · refine q_s (pc' := 12) (ls' := [vR 2, vI a1, vU, vU, vU]) (st' := [vR 2]) (g' := q2.2) k119_11 rfl rfl ?_
    refine q_s (pc' := 15) (ls' := [vR 2, vI a1, vU, vU, vU]) (st' := [vI (-202), vR 2]) (g' := q2.2) k119_12 rfl rfl ?_
    refine q_callI (ls0 := [vR 2, vI (-202)]) (rest := []) (pc' := 18) rfl k119_15 rfl (hy4 rfl rfl rfl rfl) rfl rfl hq_94 rfl (fun q7 => ?_)
    exact q_e k119_18 rfl rfl rfl
set_option maxHeartbeats 4000000 in
theorem jX_tail_42_eq (L : Nat) (l1 : Int) (l2 : Int) (l3 : Int) (l4 : Int) (g : AMem) : jX_tail_42 L l1 l2 l3 l4 g = if kin (SH L) (g 2 0) = 3 then (if g (g 2 0) 3 ≤ l4 then (some (l2, g)) else (if kin (SH L) (g 2 0) = 3 then (if 0 ≤ l4 ∧ l4 < 16 then (if g (g 2 0 + 23 + 2 * l4) 2 ≠ l1 then (if kin (SH L) (g 2 0) = 3 then (if 0 ≤ l4 ∧ l4 < 16 then (if g (g 2 0 + 23 + 2 * l4) 2 ≠ l1 then (jX_tail_42 L l1 l2 l3 (iw (l4 + 1)) g) else ((jX_makePlan L 125 l4 g).bind (fun q16 => (jPl_countSameAtEnd L 118 125 q16).bind (fun q17 => jX_tail_42 L l1 (if q17.1 < l2 then q17.1 else l2) l3 (iw (l4 + 1)) q17.2)))) else none) else none) else (if l3 = 0 then (if kin (SH L) (g 2 0) = 3 then (if 0 ≤ l4 ∧ l4 < 16 then (if g (g 2 0 + 23 + 2 * l4) 2 ≠ l1 then (jX_tail_42 L l1 l2 l3 (iw (l4 + 1)) g) else ((jX_makePlan L 125 l4 g).bind (fun q22 => (jPl_countSameAtEnd L 118 125 q22).bind (fun q23 => jX_tail_42 L l1 (if q23.1 < l2 then q23.1 else l2) l3 (iw (l4 + 1)) q23.2)))) else none) else none) else ((jX_makePlan L 118 l4 g).bind (fun q24 => jX_tail_42 L l1 (q24 118 3) 0 (iw (l4 + 1)) q24)))) else none) else none)) else none := by
  unfold jX_tail_42
  refine q_s (pc' := 44) (ls' := [vR 2, vI l1, vI l2, vI l3, vI l4]) (st' := [vI l4]) (g' := g) k119_42 rfl rfl ?_
  refine q_s (pc' := 45) (ls' := [vR 2, vI l1, vI l2, vI l3, vI l4]) (st' := [vR 2, vI l4]) (g' := g) k119_44 rfl rfl ?_
  refine q_getM (w := 0) (c := 3) (pc' := 48) rfl k119_45 rfl rfl rfl rfl rfl (fun h8 => ?_)
  refine q_getI (w := 3) (pc' := 51) k119_48 h8 rfl rfl rfl ?_
  refine q_ic (P := g (g 2 0) 3 ≤ l4) (t := 147) (pc' := 54) k119_51 Iff.rfl rfl rfl (fun h9 => ?_) (fun h9 => ?_)
  · refine q_s (pc' := 148) (ls' := [vR 2, vI l1, vI l2, vI l3, vI l4]) (st' := [vI l2]) (g' := g) k119_147 rfl rfl ?_
    exact q_e k119_148 rfl rfl rfl
  · refine q_s (pc' := 55) (ls' := [vR 2, vI l1, vI l2, vI l3, vI l4]) (st' := [vR 2]) (g' := g) k119_54 rfl rfl ?_
    refine q_getM (w := 0) (c := 3) (pc' := 58) rfl k119_55 rfl rfl rfl rfl rfl (fun h10 => ?_)
    refine q_getF (r := g 2 0 + 22) (pc' := 61) k119_58 h10 rfl (kG_f h10).2.1 rfl ?_
    refine q_s (pc' := 63) (ls' := [vR 2, vI l1, vI l2, vI l3, vI l4]) (st' := [vI l4, vR (g 2 0 + 22)]) (g' := g) k119_61 rfl rfl ?_
    refine q_aald (n := 16) (pc' := 64) rfl k119_63 (kG_f h10).2.2.2 rfl (g 2 0 + 23 + 2 * l4) (fun h => (kG_e h10 h.1 h.2).1) (fun h11 => ?_)
    refine q_getI (w := 2) (pc' := 67) k119_64 (kG_e h10 h11.1 h11.2).2 rfl rfl rfl ?_
    refine q_s (pc' := 68) (ls' := [vR 2, vI l1, vI l2, vI l3, vI l4]) (st' := [vI l1, vI (g (g 2 0 + 23 + 2 * l4) 2)]) (g' := g) k119_67 rfl rfl ?_
    refine q_ic (P := g (g 2 0 + 23 + 2 * l4) 2 ≠ l1) (t := 98) (pc' := 71) k119_68 Iff.rfl rfl rfl (fun h12 => ?_) (fun h12 => ?_)
    · refine q_s (pc' := 99) (ls' := [vR 2, vI l1, vI l2, vI l3, vI l4]) (st' := [vR 2]) (g' := g) k119_98 rfl rfl ?_
      refine q_getM (w := 0) (c := 3) (pc' := 102) rfl k119_99 rfl rfl rfl rfl rfl (fun h13 => ?_)
      refine q_getF (r := g 2 0 + 22) (pc' := 105) k119_102 h13 rfl (kG_f h13).2.1 rfl ?_
      refine q_s (pc' := 107) (ls' := [vR 2, vI l1, vI l2, vI l3, vI l4]) (st' := [vI l4, vR (g 2 0 + 22)]) (g' := g) k119_105 rfl rfl ?_
      refine q_aald (n := 16) (pc' := 108) rfl k119_107 (kG_f h13).2.2.2 rfl (g 2 0 + 23 + 2 * l4) (fun h => (kG_e h13 h.1 h.2).1) (fun h14 => ?_)
      refine q_getI (w := 2) (pc' := 111) k119_108 (kG_e h13 h14.1 h14.2).2 rfl rfl rfl ?_
      refine q_s (pc' := 112) (ls' := [vR 2, vI l1, vI l2, vI l3, vI l4]) (st' := [vI l1, vI (g (g 2 0 + 23 + 2 * l4) 2)]) (g' := g) k119_111 rfl rfl ?_
      refine q_ic (P := g (g 2 0 + 23 + 2 * l4) 2 ≠ l1) (t := 141) (pc' := 115) k119_112 Iff.rfl rfl rfl (fun h15 => ?_) (fun h15 => ?_)
      · refine q_s (pc' := 144) (ls' := [vR 2, vI l1, vI l2, vI l3, vI (iw (l4 + 1))]) (st' := []) (g' := g) k119_141 rfl rfl ?_
        refine q_s (pc' := 42) (ls' := [vR 2, vI l1, vI l2, vI l3, vI (iw (l4 + 1))]) (st' := []) (g' := g) k119_144 rfl rfl ?_
        rfl
      · refine q_s (pc' := 116) (ls' := [vR 2, vI l1, vI l2, vI l3, vI l4]) (st' := [vR 2]) (g' := g) k119_115 rfl rfl ?_
        refine q_s (pc' := 117) (ls' := [vR 2, vI l1, vI l2, vI l3, vI l4]) (st' := [vR 2, vR 2]) (g' := g) k119_116 rfl rfl ?_
        refine q_getF (r := 125) (pc' := 120) k119_117 rfl rfl rfl rfl ?_
        refine q_s (pc' := 122) (ls' := [vR 2, vI l1, vI l2, vI l3, vI l4]) (st' := [vI l4, vR 125, vR 2]) (g' := g) k119_120 rfl rfl ?_
        refine q_callV (ls0 := [vR 2, vR 125, vI l4]) (rest := []) (pc' := 125) rfl k119_122 rfl (hy4 rfl rfl rfl rfl) rfl rfl hq_110 rfl (fun q16 => ?_)
        refine q_s (pc' := 126) (ls' := [vR 2, vI l1, vI l2, vI l3, vI l4]) (st' := [vI l2]) (g' := q16) k119_125 rfl rfl ?_
        refine q_s (pc' := 127) (ls' := [vR 2, vI l1, vI l2, vI l3, vI l4]) (st' := [vR 2, vI l2]) (g' := q16) k119_126 rfl rfl ?_
        refine q_getF (r := 118) (pc' := 130) k119_127 rfl rfl rfl rfl ?_
        refine q_s (pc' := 131) (ls' := [vR 2, vI l1, vI l2, vI l3, vI l4]) (st' := [vR 2, vR 118, vI l2]) (g' := q16) k119_130 rfl rfl ?_
        refine q_getF (r := 125) (pc' := 134) k119_131 rfl rfl rfl rfl ?_
        refine q_callI (ls0 := [vR 118, vR 125, vU]) (rest := [vI l2]) (pc' := 137) rfl k119_134 rfl (hy4 rfl rfl rfl rfl) rfl rfl hq_69 rfl (fun q17 => ?_)
        refine q_s (pc' := 140) (ls' := [vR 2, vI l1, vI l2, vI l3, vI l4]) (st' := [vI (if q17.1 < l2 then q17.1 else l2)]) (g' := q17.2) k119_137 rfl rfl ?_
        refine q_s (pc' := 141) (ls' := [vR 2, vI l1, vI (if q17.1 < l2 then q17.1 else l2), vI l3, vI l4]) (st' := []) (g' := q17.2) k119_140 rfl rfl ?_
        refine q_s (pc' := 144) (ls' := [vR 2, vI l1, vI (if q17.1 < l2 then q17.1 else l2), vI l3, vI (iw (l4 + 1))]) (st' := []) (g' := q17.2) k119_141 rfl rfl ?_
        refine q_s (pc' := 42) (ls' := [vR 2, vI l1, vI (if q17.1 < l2 then q17.1 else l2), vI l3, vI (iw (l4 + 1))]) (st' := []) (g' := q17.2) k119_144 rfl rfl ?_
        rfl
    · refine q_s (pc' := 72) (ls' := [vR 2, vI l1, vI l2, vI l3, vI l4]) (st' := [vI l3]) (g' := g) k119_71 rfl rfl ?_
      refine q_if (P := l3 = 0) (t := 98) (pc' := 75) k119_72 Iff.rfl rfl rfl (fun h18 => ?_) (fun h18 => ?_)
      · refine q_s (pc' := 99) (ls' := [vR 2, vI l1, vI l2, vI l3, vI l4]) (st' := [vR 2]) (g' := g) k119_98 rfl rfl ?_
        refine q_getM (w := 0) (c := 3) (pc' := 102) rfl k119_99 rfl rfl rfl rfl rfl (fun h19 => ?_)
        refine q_getF (r := g 2 0 + 22) (pc' := 105) k119_102 h19 rfl (kG_f h19).2.1 rfl ?_
        refine q_s (pc' := 107) (ls' := [vR 2, vI l1, vI l2, vI l3, vI l4]) (st' := [vI l4, vR (g 2 0 + 22)]) (g' := g) k119_105 rfl rfl ?_
        refine q_aald (n := 16) (pc' := 108) rfl k119_107 (kG_f h19).2.2.2 rfl (g 2 0 + 23 + 2 * l4) (fun h => (kG_e h19 h.1 h.2).1) (fun h20 => ?_)
        refine q_getI (w := 2) (pc' := 111) k119_108 (kG_e h19 h20.1 h20.2).2 rfl rfl rfl ?_
        refine q_s (pc' := 112) (ls' := [vR 2, vI l1, vI l2, vI l3, vI l4]) (st' := [vI l1, vI (g (g 2 0 + 23 + 2 * l4) 2)]) (g' := g) k119_111 rfl rfl ?_
        refine q_ic (P := g (g 2 0 + 23 + 2 * l4) 2 ≠ l1) (t := 141) (pc' := 115) k119_112 Iff.rfl rfl rfl (fun h21 => ?_) (fun h21 => ?_)
        · refine q_s (pc' := 144) (ls' := [vR 2, vI l1, vI l2, vI l3, vI (iw (l4 + 1))]) (st' := []) (g' := g) k119_141 rfl rfl ?_
          refine q_s (pc' := 42) (ls' := [vR 2, vI l1, vI l2, vI l3, vI (iw (l4 + 1))]) (st' := []) (g' := g) k119_144 rfl rfl ?_
          rfl
        · refine q_s (pc' := 116) (ls' := [vR 2, vI l1, vI l2, vI l3, vI l4]) (st' := [vR 2]) (g' := g) k119_115 rfl rfl ?_
          refine q_s (pc' := 117) (ls' := [vR 2, vI l1, vI l2, vI l3, vI l4]) (st' := [vR 2, vR 2]) (g' := g) k119_116 rfl rfl ?_
          refine q_getF (r := 125) (pc' := 120) k119_117 rfl rfl rfl rfl ?_
          refine q_s (pc' := 122) (ls' := [vR 2, vI l1, vI l2, vI l3, vI l4]) (st' := [vI l4, vR 125, vR 2]) (g' := g) k119_120 rfl rfl ?_
          refine q_callV (ls0 := [vR 2, vR 125, vI l4]) (rest := []) (pc' := 125) rfl k119_122 rfl (hy4 rfl rfl rfl rfl) rfl rfl hq_110 rfl (fun q22 => ?_)
          refine q_s (pc' := 126) (ls' := [vR 2, vI l1, vI l2, vI l3, vI l4]) (st' := [vI l2]) (g' := q22) k119_125 rfl rfl ?_
          refine q_s (pc' := 127) (ls' := [vR 2, vI l1, vI l2, vI l3, vI l4]) (st' := [vR 2, vI l2]) (g' := q22) k119_126 rfl rfl ?_
          refine q_getF (r := 118) (pc' := 130) k119_127 rfl rfl rfl rfl ?_
          refine q_s (pc' := 131) (ls' := [vR 2, vI l1, vI l2, vI l3, vI l4]) (st' := [vR 2, vR 118, vI l2]) (g' := q22) k119_130 rfl rfl ?_
          refine q_getF (r := 125) (pc' := 134) k119_131 rfl rfl rfl rfl ?_
          refine q_callI (ls0 := [vR 118, vR 125, vU]) (rest := [vI l2]) (pc' := 137) rfl k119_134 rfl (hy4 rfl rfl rfl rfl) rfl rfl hq_69 rfl (fun q23 => ?_)
          refine q_s (pc' := 140) (ls' := [vR 2, vI l1, vI l2, vI l3, vI l4]) (st' := [vI (if q23.1 < l2 then q23.1 else l2)]) (g' := q23.2) k119_137 rfl rfl ?_
          refine q_s (pc' := 141) (ls' := [vR 2, vI l1, vI (if q23.1 < l2 then q23.1 else l2), vI l3, vI l4]) (st' := []) (g' := q23.2) k119_140 rfl rfl ?_
          refine q_s (pc' := 144) (ls' := [vR 2, vI l1, vI (if q23.1 < l2 then q23.1 else l2), vI l3, vI (iw (l4 + 1))]) (st' := []) (g' := q23.2) k119_141 rfl rfl ?_
          refine q_s (pc' := 42) (ls' := [vR 2, vI l1, vI (if q23.1 < l2 then q23.1 else l2), vI l3, vI (iw (l4 + 1))]) (st' := []) (g' := q23.2) k119_144 rfl rfl ?_
          rfl
      · refine q_s (pc' := 76) (ls' := [vR 2, vI l1, vI l2, vI l3, vI l4]) (st' := [vR 2]) (g' := g) k119_75 rfl rfl ?_
        refine q_s (pc' := 77) (ls' := [vR 2, vI l1, vI l2, vI l3, vI l4]) (st' := [vR 2, vR 2]) (g' := g) k119_76 rfl rfl ?_
        refine q_getF (r := 118) (pc' := 80) k119_77 rfl rfl rfl rfl ?_
        refine q_s (pc' := 82) (ls' := [vR 2, vI l1, vI l2, vI l3, vI l4]) (st' := [vI l4, vR 118, vR 2]) (g' := g) k119_80 rfl rfl ?_
        refine q_callV (ls0 := [vR 2, vR 118, vI l4]) (rest := []) (pc' := 85) rfl k119_82 rfl (hy4 rfl rfl rfl rfl) rfl rfl hq_110 rfl (fun q24 => ?_)
        refine q_s (pc' := 86) (ls' := [vR 2, vI l1, vI l2, vI l3, vI l4]) (st' := [vR 2]) (g' := q24) k119_85 rfl rfl ?_
        refine q_getF (r := 118) (pc' := 89) k119_86 rfl rfl rfl rfl ?_
        refine q_getI (w := 3) (pc' := 92) k119_89 rfl rfl rfl rfl ?_
        refine q_s (pc' := 93) (ls' := [vR 2, vI l1, vI (q24 118 3), vI l3, vI l4]) (st' := []) (g' := q24) k119_92 rfl rfl ?_
        refine q_s (pc' := 94) (ls' := [vR 2, vI l1, vI (q24 118 3), vI l3, vI l4]) (st' := [vI 0]) (g' := q24) k119_93 rfl rfl ?_
        refine q_s (pc' := 95) (ls' := [vR 2, vI l1, vI (q24 118 3), vI 0, vI l4]) (st' := []) (g' := q24) k119_94 rfl rfl ?_
        refine q_s (pc' := 141) (ls' := [vR 2, vI l1, vI (q24 118 3), vI 0, vI l4]) (st' := []) (g' := q24) k119_95 rfl rfl ?_
        refine q_s (pc' := 144) (ls' := [vR 2, vI l1, vI (q24 118 3), vI 0, vI (iw (l4 + 1))]) (st' := []) (g' := q24) k119_141 rfl rfl ?_
        refine q_s (pc' := 42) (ls' := [vR 2, vI l1, vI (q24 118 3), vI 0, vI (iw (l4 + 1))]) (st' := []) (g' := q24) k119_144 rfl rfl ?_
        rfl
set_option maxHeartbeats 4000000 in
theorem jX_run_eq (L : Nat) (a1 : Int) (a2 : Int) (a3 : Int) (g : AMem) : jX_run L a1 a2 a3 g = (jX_isBelow L a2 1000000 g).bind (fun q1 => if q1.1 = 0 then ((jX_refusalFor L a1 0 q1.2).bind (fun q3 => if q3.1 = 0 then ((jMe_fillBy L a2 q3.2).bind (fun q5 => if a3 ≠ 0 then ((jX_makePlan L 118 a1 q5).bind (fun q7 => (jMe_follow L 118 q7).bind (fun q8 => (jMe_hash L q8).bind (fun q9 => some (q9.1, q9.2))))) else (if kin (SH L) (q5 2 0) = 3 then (if 0 ≤ a1 ∧ a1 < 16 then (if 0 ≤ q5 (q5 2 0 + 23 + 2 * a1) 2 ∧ q5 (q5 2 0 + 23 + 2 * a1) 2 < 10 then (if kin (SH L) (q5 2 0) = 3 then (if 0 ≤ a1 ∧ a1 < 16 then ((jMe_handOver L (q5 2 0 + 2 + 2 * (q5 (q5 2 0 + 23 + 2 * a1) 2)) (q5 2 0 + 23 + 2 * a1) q5).bind (fun q16 => (jMe_hash L q16).bind (fun q17 => some (q17.1, q17.2)))) else none) else none) else none) else none) else none))) else ((jX_refuse L q3.1 q3.2).bind (fun q18 => some (q18.1, q18.2))))) else ((jX_isBelow L a3 2 q1.2).bind (fun q19 => if q19.1 = 0 then ((jX_refusalFor L a1 0 q19.2).bind (fun q21 => if q21.1 = 0 then ((jMe_fillBy L a2 q21.2).bind (fun q23 => if a3 ≠ 0 then ((jX_makePlan L 118 a1 q23).bind (fun q25 => (jMe_follow L 118 q25).bind (fun q26 => (jMe_hash L q26).bind (fun q27 => some (q27.1, q27.2))))) else (if kin (SH L) (q23 2 0) = 3 then (if 0 ≤ a1 ∧ a1 < 16 then (if 0 ≤ q23 (q23 2 0 + 23 + 2 * a1) 2 ∧ q23 (q23 2 0 + 23 + 2 * a1) 2 < 10 then (if kin (SH L) (q23 2 0) = 3 then (if 0 ≤ a1 ∧ a1 < 16 then ((jMe_handOver L (q23 2 0 + 2 + 2 * (q23 (q23 2 0 + 23 + 2 * a1) 2)) (q23 2 0 + 23 + 2 * a1) q23).bind (fun q34 => (jMe_hash L q34).bind (fun q35 => some (q35.1, q35.2)))) else none) else none) else none) else none) else none))) else ((jX_refuse L q21.1 q21.2).bind (fun q36 => some (q36.1, q36.2))))) else ((jX_refusalFor L a1 1 q19.2).bind (fun q37 => if q37.1 = 0 then ((jMe_fillBy L a2 q37.2).bind (fun q39 => if a3 ≠ 0 then ((jX_makePlan L 118 a1 q39).bind (fun q41 => (jMe_follow L 118 q41).bind (fun q42 => (jMe_hash L q42).bind (fun q43 => some (q43.1, q43.2))))) else (if kin (SH L) (q39 2 0) = 3 then (if 0 ≤ a1 ∧ a1 < 16 then (if 0 ≤ q39 (q39 2 0 + 23 + 2 * a1) 2 ∧ q39 (q39 2 0 + 23 + 2 * a1) 2 < 10 then (if kin (SH L) (q39 2 0) = 3 then (if 0 ≤ a1 ∧ a1 < 16 then ((jMe_handOver L (q39 2 0 + 2 + 2 * (q39 (q39 2 0 + 23 + 2 * a1) 2)) (q39 2 0 + 23 + 2 * a1) q39).bind (fun q50 => (jMe_hash L q50).bind (fun q51 => some (q51.1, q51.2)))) else none) else none) else none) else none) else none))) else ((jX_refuse L q37.1 q37.2).bind (fun q52 => some (q52.1, q52.2)))))))) := by
  unfold jX_run
  refine q_s (pc' := 1) (ls' := [vR 2, vI a1, vI a2, vI a3, vU]) (st' := [vR 2]) (g' := g) k120_0 rfl rfl ?_
  refine q_s (pc' := 2) (ls' := [vR 2, vI a1, vI a2, vI a3, vU]) (st' := [vI a1, vR 2]) (g' := g) k120_1 rfl rfl ?_
  refine q_s (pc' := 3) (ls' := [vR 2, vI a1, vI a2, vI a3, vU]) (st' := [vI a2, vI a1, vR 2]) (g' := g) k120_2 rfl rfl ?_
  refine q_s (pc' := 5) (ls' := [vR 2, vI a1, vI a2, vI a3, vU]) (st' := [vI 1000000, vI a2, vI a1, vR 2]) (g' := g) k120_3 rfl rfl ?_
  refine q_callI (ls0 := [vI a2, vI 1000000]) (rest := [vI a1, vR 2]) (pc' := 8) rfl k120_5 rfl (hy4 rfl rfl rfl rfl) rfl rfl hq_13 rfl (fun q1 => ?_)
  refine q_if (P := q1.1 = 0) (t := 23) (pc' := 11) k120_8 Iff.rfl rfl rfl (fun h2 => ?_) (fun h2 => ?_)
  · refine q_s (pc' := 24) (ls' := [vR 2, vI a1, vI a2, vI a3, vU]) (st' := [vI 0, vI a1, vR 2]) (g' := q1.2) k120_23 rfl rfl ?_
    refine q_callI (ls0 := [vR 2, vI a1, vI 0]) (rest := []) (pc' := 27) rfl k120_24 rfl (hy4 rfl rfl rfl rfl) rfl rfl hq_109 rfl (fun q3 => ?_)
    refine q_s (pc' := 29) (ls' := [vR 2, vI a1, vI a2, vI a3, vI q3.1]) (st' := []) (g' := q3.2) k120_27 rfl rfl ?_
    refine q_s (pc' := 31) (ls' := [vR 2, vI a1, vI a2, vI a3, vI q3.1]) (st' := [vI q3.1]) (g' := q3.2) k120_29 rfl rfl ?_
    refine q_if (P := q3.1 = 0) (t := 42) (pc' := 34) k120_31 Iff.rfl rfl rfl (fun h4 => ?_) (fun h4 => ?_)
    · refine q_s (pc' := 43) (ls' := [vR 2, vI a1, vI a2, vI a3, vI q3.1]) (st' := [vR 2]) (g' := q3.2) k120_42 rfl rfl ?_
      refine q_getF (r := 132) (pc' := 46) k120_43 rfl rfl rfl rfl ?_
      refine q_s (pc' := 47) (ls' := [vR 2, vI a1, vI a2, vI a3, vI q3.1]) (st' := [vR 2, vR 132]) (g' := q3.2) k120_46 rfl rfl ?_
      refine q_getF (r := 135) (pc' := 50) k120_47 rfl rfl rfl rfl ?_
      refine q_s (pc' := 51) (ls' := [vR 2, vI a1, vI a2, vI a3, vI q3.1]) (st' := [vI a2, vR 135, vR 132]) (g' := q3.2) k120_50 rfl rfl ?_
      refine q_callV (ls0 := [vR 132, vR 135, vI a2, vU]) (rest := []) (pc' := 54) rfl k120_51 rfl (hy4 rfl rfl rfl rfl) rfl rfl hq_39 rfl (fun q5 => ?_)
      refine q_s (pc' := 55) (ls' := [vR 2, vI a1, vI a2, vI a3, vI q3.1]) (st' := [vI a3]) (g' := q5) k120_54 rfl rfl ?_
      refine q_if (P := a3 ≠ 0) (t := 85) (pc' := 58) k120_55 Iff.rfl rfl rfl (fun h6 => ?_) (fun h6 => ?_)
      · refine q_s (pc' := 86) (ls' := [vR 2, vI a1, vI a2, vI a3, vI q3.1]) (st' := [vR 2]) (g' := q5) k120_85 rfl rfl ?_
        refine q_s (pc' := 87) (ls' := [vR 2, vI a1, vI a2, vI a3, vI q3.1]) (st' := [vR 2, vR 2]) (g' := q5) k120_86 rfl rfl ?_
        refine q_getF (r := 118) (pc' := 90) k120_87 rfl rfl rfl rfl ?_
        refine q_s (pc' := 91) (ls' := [vR 2, vI a1, vI a2, vI a3, vI q3.1]) (st' := [vI a1, vR 118, vR 2]) (g' := q5) k120_90 rfl rfl ?_
        refine q_callV (ls0 := [vR 2, vR 118, vI a1]) (rest := []) (pc' := 94) rfl k120_91 rfl (hy4 rfl rfl rfl rfl) rfl rfl hq_110 rfl (fun q7 => ?_)
        refine q_s (pc' := 95) (ls' := [vR 2, vI a1, vI a2, vI a3, vI q3.1]) (st' := [vR 2]) (g' := q7) k120_94 rfl rfl ?_
        refine q_getF (r := 132) (pc' := 98) k120_95 rfl rfl rfl rfl ?_
        refine q_s (pc' := 99) (ls' := [vR 2, vI a1, vI a2, vI a3, vI q3.1]) (st' := [vR 2, vR 132]) (g' := q7) k120_98 rfl rfl ?_
        refine q_getF (r := 118) (pc' := 102) k120_99 rfl rfl rfl rfl ?_
        refine q_callV (ls0 := [vR 132, vR 118, vU]) (rest := []) (pc' := 105) rfl k120_102 rfl (hy4 rfl rfl rfl rfl) rfl rfl hq_44 rfl (fun q8 => ?_)
        refine q_s (pc' := 106) (ls' := [vR 2, vI a1, vI a2, vI a3, vI q3.1]) (st' := [vR 2]) (g' := q8) k120_105 rfl rfl ?_
        refine q_getF (r := 132) (pc' := 109) k120_106 rfl rfl rfl rfl ?_
        refine q_callL (ls0 := [vR 132, vU, vU, vU]) (rest := []) (pc' := 112) rfl k120_109 rfl (hy4 rfl rfl rfl rfl) rfl rfl hq_45 rfl (fun q9 => ?_)
        exact q_e k120_112 rfl rfl rfl
      · refine q_s (pc' := 59) (ls' := [vR 2, vI a1, vI a2, vI a3, vI q3.1]) (st' := [vR 2]) (g' := q5) k120_58 rfl rfl ?_
        refine q_getF (r := 132) (pc' := 62) k120_59 rfl rfl rfl rfl ?_
        refine q_s (pc' := 63) (ls' := [vR 2, vI a1, vI a2, vI a3, vI q3.1]) (st' := [vR 2, vR 132]) (g' := q5) k120_62 rfl rfl ?_
        refine q_getM (w := 0) (c := 3) (pc' := 66) rfl k120_63 rfl rfl rfl rfl rfl (fun h10 => ?_)
        refine q_s (pc' := 67) (ls' := [vR 2, vI a1, vI a2, vI a3, vI q3.1]) (st' := [vI a1, vR (q5 2 0), vR 132]) (g' := q5) k120_66 rfl rfl ?_
        refine q_goal (t := q5 2 0) (e := a1) (pc' := 70) rfl k120_67 h10 rfl rfl (fun h12 h13 => ?_)
        refine q_s (pc' := 71) (ls' := [vR 2, vI a1, vI a2, vI a3, vI q3.1]) (st' := [vR 2, vR (q5 2 0 + 2 + 2 * (q5 (q5 2 0 + 23 + 2 * a1) 2)), vR 132]) (g' := q5) k120_70 rfl rfl ?_
        refine q_getM (w := 0) (c := 3) (pc' := 74) rfl k120_71 rfl rfl rfl rfl rfl (fun h14 => ?_)
        refine q_getF (r := q5 2 0 + 22) (pc' := 77) k120_74 h14 rfl (kG_f h14).2.1 rfl ?_
        refine q_s (pc' := 78) (ls' := [vR 2, vI a1, vI a2, vI a3, vI q3.1]) (st' := [vI a1, vR (q5 2 0 + 22), vR (q5 2 0 + 2 + 2 * (q5 (q5 2 0 + 23 + 2 * a1) 2)), vR 132]) (g' := q5) k120_77 rfl rfl ?_
        refine q_aald (n := 16) (pc' := 79) rfl k120_78 (kG_f h14).2.2.2 rfl (q5 2 0 + 23 + 2 * a1) (fun h => (kG_e h14 h.1 h.2).1) (fun h15 => ?_)
        refine q_callV (ls0 := [vR 132, vR (q5 2 0 + 2 + 2 * (q5 (q5 2 0 + 23 + 2 * a1) 2)), vR (q5 2 0 + 23 + 2 * a1), vU]) (rest := []) (pc' := 82) rfl k120_79 rfl (hy4 rfl rfl rfl rfl) rfl rfl hq_43 rfl (fun q16 => ?_)
        refine q_s (pc' := 105) (ls' := [vR 2, vI a1, vI a2, vI a3, vI q3.1]) (st' := []) (g' := q16) k120_82 rfl rfl ?_
        refine q_s (pc' := 106) (ls' := [vR 2, vI a1, vI a2, vI a3, vI q3.1]) (st' := [vR 2]) (g' := q16) k120_105 rfl rfl ?_
        refine q_getF (r := 132) (pc' := 109) k120_106 rfl rfl rfl rfl ?_
        refine q_callL (ls0 := [vR 132, vU, vU, vU]) (rest := []) (pc' := 112) rfl k120_109 rfl (hy4 rfl rfl rfl rfl) rfl rfl hq_45 rfl (fun q17 => ?_)
        exact q_e k120_112 rfl rfl rfl
    · refine q_s (pc' := 35) (ls' := [vR 2, vI a1, vI a2, vI a3, vI q3.1]) (st' := [vR 2]) (g' := q3.2) k120_34 rfl rfl ?_
      refine q_s (pc' := 37) (ls' := [vR 2, vI a1, vI a2, vI a3, vI q3.1]) (st' := [vI q3.1, vR 2]) (g' := q3.2) k120_35 rfl rfl ?_
      refine q_callI (ls0 := [vR 2, vI q3.1]) (rest := []) (pc' := 40) rfl k120_37 rfl (hy4 rfl rfl rfl rfl) rfl rfl hq_94 rfl (fun q18 => ?_)
      refine q_s (pc' := 41) (ls' := [vR 2, vI a1, vI a2, vI a3, vI q3.1]) (st' := [vL q18.1]) (g' := q18.2) k120_40 rfl rfl ?_
      exact q_e k120_41 rfl rfl rfl
  · refine q_s (pc' := 12) (ls' := [vR 2, vI a1, vI a2, vI a3, vU]) (st' := [vI a3, vI a1, vR 2]) (g' := q1.2) k120_11 rfl rfl ?_
    refine q_s (pc' := 13) (ls' := [vR 2, vI a1, vI a2, vI a3, vU]) (st' := [vI 2, vI a3, vI a1, vR 2]) (g' := q1.2) k120_12 rfl rfl ?_
    refine q_callI (ls0 := [vI a3, vI 2]) (rest := [vI a1, vR 2]) (pc' := 16) rfl k120_13 rfl (hy4 rfl rfl rfl rfl) rfl rfl hq_13 rfl (fun q19 => ?_)
    refine q_if (P := q19.1 = 0) (t := 23) (pc' := 19) k120_16 Iff.rfl rfl rfl (fun h20 => ?_) (fun h20 => ?_)
    · refine q_s (pc' := 24) (ls' := [vR 2, vI a1, vI a2, vI a3, vU]) (st' := [vI 0, vI a1, vR 2]) (g' := q19.2) k120_23 rfl rfl ?_
      refine q_callI (ls0 := [vR 2, vI a1, vI 0]) (rest := []) (pc' := 27) rfl k120_24 rfl (hy4 rfl rfl rfl rfl) rfl rfl hq_109 rfl (fun q21 => ?_)
      refine q_s (pc' := 29) (ls' := [vR 2, vI a1, vI a2, vI a3, vI q21.1]) (st' := []) (g' := q21.2) k120_27 rfl rfl ?_
      refine q_s (pc' := 31) (ls' := [vR 2, vI a1, vI a2, vI a3, vI q21.1]) (st' := [vI q21.1]) (g' := q21.2) k120_29 rfl rfl ?_
      refine q_if (P := q21.1 = 0) (t := 42) (pc' := 34) k120_31 Iff.rfl rfl rfl (fun h22 => ?_) (fun h22 => ?_)
      · refine q_s (pc' := 43) (ls' := [vR 2, vI a1, vI a2, vI a3, vI q21.1]) (st' := [vR 2]) (g' := q21.2) k120_42 rfl rfl ?_
        refine q_getF (r := 132) (pc' := 46) k120_43 rfl rfl rfl rfl ?_
        refine q_s (pc' := 47) (ls' := [vR 2, vI a1, vI a2, vI a3, vI q21.1]) (st' := [vR 2, vR 132]) (g' := q21.2) k120_46 rfl rfl ?_
        refine q_getF (r := 135) (pc' := 50) k120_47 rfl rfl rfl rfl ?_
        refine q_s (pc' := 51) (ls' := [vR 2, vI a1, vI a2, vI a3, vI q21.1]) (st' := [vI a2, vR 135, vR 132]) (g' := q21.2) k120_50 rfl rfl ?_
        refine q_callV (ls0 := [vR 132, vR 135, vI a2, vU]) (rest := []) (pc' := 54) rfl k120_51 rfl (hy4 rfl rfl rfl rfl) rfl rfl hq_39 rfl (fun q23 => ?_)
        refine q_s (pc' := 55) (ls' := [vR 2, vI a1, vI a2, vI a3, vI q21.1]) (st' := [vI a3]) (g' := q23) k120_54 rfl rfl ?_
        refine q_if (P := a3 ≠ 0) (t := 85) (pc' := 58) k120_55 Iff.rfl rfl rfl (fun h24 => ?_) (fun h24 => ?_)
        · refine q_s (pc' := 86) (ls' := [vR 2, vI a1, vI a2, vI a3, vI q21.1]) (st' := [vR 2]) (g' := q23) k120_85 rfl rfl ?_
          refine q_s (pc' := 87) (ls' := [vR 2, vI a1, vI a2, vI a3, vI q21.1]) (st' := [vR 2, vR 2]) (g' := q23) k120_86 rfl rfl ?_
          refine q_getF (r := 118) (pc' := 90) k120_87 rfl rfl rfl rfl ?_
          refine q_s (pc' := 91) (ls' := [vR 2, vI a1, vI a2, vI a3, vI q21.1]) (st' := [vI a1, vR 118, vR 2]) (g' := q23) k120_90 rfl rfl ?_
          refine q_callV (ls0 := [vR 2, vR 118, vI a1]) (rest := []) (pc' := 94) rfl k120_91 rfl (hy4 rfl rfl rfl rfl) rfl rfl hq_110 rfl (fun q25 => ?_)
          refine q_s (pc' := 95) (ls' := [vR 2, vI a1, vI a2, vI a3, vI q21.1]) (st' := [vR 2]) (g' := q25) k120_94 rfl rfl ?_
          refine q_getF (r := 132) (pc' := 98) k120_95 rfl rfl rfl rfl ?_
          refine q_s (pc' := 99) (ls' := [vR 2, vI a1, vI a2, vI a3, vI q21.1]) (st' := [vR 2, vR 132]) (g' := q25) k120_98 rfl rfl ?_
          refine q_getF (r := 118) (pc' := 102) k120_99 rfl rfl rfl rfl ?_
          refine q_callV (ls0 := [vR 132, vR 118, vU]) (rest := []) (pc' := 105) rfl k120_102 rfl (hy4 rfl rfl rfl rfl) rfl rfl hq_44 rfl (fun q26 => ?_)
          refine q_s (pc' := 106) (ls' := [vR 2, vI a1, vI a2, vI a3, vI q21.1]) (st' := [vR 2]) (g' := q26) k120_105 rfl rfl ?_
          refine q_getF (r := 132) (pc' := 109) k120_106 rfl rfl rfl rfl ?_
          refine q_callL (ls0 := [vR 132, vU, vU, vU]) (rest := []) (pc' := 112) rfl k120_109 rfl (hy4 rfl rfl rfl rfl) rfl rfl hq_45 rfl (fun q27 => ?_)
          exact q_e k120_112 rfl rfl rfl
        · refine q_s (pc' := 59) (ls' := [vR 2, vI a1, vI a2, vI a3, vI q21.1]) (st' := [vR 2]) (g' := q23) k120_58 rfl rfl ?_
          refine q_getF (r := 132) (pc' := 62) k120_59 rfl rfl rfl rfl ?_
          refine q_s (pc' := 63) (ls' := [vR 2, vI a1, vI a2, vI a3, vI q21.1]) (st' := [vR 2, vR 132]) (g' := q23) k120_62 rfl rfl ?_
          refine q_getM (w := 0) (c := 3) (pc' := 66) rfl k120_63 rfl rfl rfl rfl rfl (fun h28 => ?_)
          refine q_s (pc' := 67) (ls' := [vR 2, vI a1, vI a2, vI a3, vI q21.1]) (st' := [vI a1, vR (q23 2 0), vR 132]) (g' := q23) k120_66 rfl rfl ?_
          refine q_goal (t := q23 2 0) (e := a1) (pc' := 70) rfl k120_67 h28 rfl rfl (fun h30 h31 => ?_)
          refine q_s (pc' := 71) (ls' := [vR 2, vI a1, vI a2, vI a3, vI q21.1]) (st' := [vR 2, vR (q23 2 0 + 2 + 2 * (q23 (q23 2 0 + 23 + 2 * a1) 2)), vR 132]) (g' := q23) k120_70 rfl rfl ?_
          refine q_getM (w := 0) (c := 3) (pc' := 74) rfl k120_71 rfl rfl rfl rfl rfl (fun h32 => ?_)
          refine q_getF (r := q23 2 0 + 22) (pc' := 77) k120_74 h32 rfl (kG_f h32).2.1 rfl ?_
          refine q_s (pc' := 78) (ls' := [vR 2, vI a1, vI a2, vI a3, vI q21.1]) (st' := [vI a1, vR (q23 2 0 + 22), vR (q23 2 0 + 2 + 2 * (q23 (q23 2 0 + 23 + 2 * a1) 2)), vR 132]) (g' := q23) k120_77 rfl rfl ?_
          refine q_aald (n := 16) (pc' := 79) rfl k120_78 (kG_f h32).2.2.2 rfl (q23 2 0 + 23 + 2 * a1) (fun h => (kG_e h32 h.1 h.2).1) (fun h33 => ?_)
          refine q_callV (ls0 := [vR 132, vR (q23 2 0 + 2 + 2 * (q23 (q23 2 0 + 23 + 2 * a1) 2)), vR (q23 2 0 + 23 + 2 * a1), vU]) (rest := []) (pc' := 82) rfl k120_79 rfl (hy4 rfl rfl rfl rfl) rfl rfl hq_43 rfl (fun q34 => ?_)
          refine q_s (pc' := 105) (ls' := [vR 2, vI a1, vI a2, vI a3, vI q21.1]) (st' := []) (g' := q34) k120_82 rfl rfl ?_
          refine q_s (pc' := 106) (ls' := [vR 2, vI a1, vI a2, vI a3, vI q21.1]) (st' := [vR 2]) (g' := q34) k120_105 rfl rfl ?_
          refine q_getF (r := 132) (pc' := 109) k120_106 rfl rfl rfl rfl ?_
          refine q_callL (ls0 := [vR 132, vU, vU, vU]) (rest := []) (pc' := 112) rfl k120_109 rfl (hy4 rfl rfl rfl rfl) rfl rfl hq_45 rfl (fun q35 => ?_)
          exact q_e k120_112 rfl rfl rfl
      · refine q_s (pc' := 35) (ls' := [vR 2, vI a1, vI a2, vI a3, vI q21.1]) (st' := [vR 2]) (g' := q21.2) k120_34 rfl rfl ?_
        refine q_s (pc' := 37) (ls' := [vR 2, vI a1, vI a2, vI a3, vI q21.1]) (st' := [vI q21.1, vR 2]) (g' := q21.2) k120_35 rfl rfl ?_
        refine q_callI (ls0 := [vR 2, vI q21.1]) (rest := []) (pc' := 40) rfl k120_37 rfl (hy4 rfl rfl rfl rfl) rfl rfl hq_94 rfl (fun q36 => ?_)
        refine q_s (pc' := 41) (ls' := [vR 2, vI a1, vI a2, vI a3, vI q21.1]) (st' := [vL q36.1]) (g' := q36.2) k120_40 rfl rfl ?_
        exact q_e k120_41 rfl rfl rfl
    · refine q_s (pc' := 20) (ls' := [vR 2, vI a1, vI a2, vI a3, vU]) (st' := [vI 1, vI a1, vR 2]) (g' := q19.2) k120_19 rfl rfl ?_
      refine q_s (pc' := 24) (ls' := [vR 2, vI a1, vI a2, vI a3, vU]) (st' := [vI 1, vI a1, vR 2]) (g' := q19.2) k120_20 rfl rfl ?_
      refine q_callI (ls0 := [vR 2, vI a1, vI 1]) (rest := []) (pc' := 27) rfl k120_24 rfl (hy4 rfl rfl rfl rfl) rfl rfl hq_109 rfl (fun q37 => ?_)
      refine q_s (pc' := 29) (ls' := [vR 2, vI a1, vI a2, vI a3, vI q37.1]) (st' := []) (g' := q37.2) k120_27 rfl rfl ?_
      refine q_s (pc' := 31) (ls' := [vR 2, vI a1, vI a2, vI a3, vI q37.1]) (st' := [vI q37.1]) (g' := q37.2) k120_29 rfl rfl ?_
      refine q_if (P := q37.1 = 0) (t := 42) (pc' := 34) k120_31 Iff.rfl rfl rfl (fun h38 => ?_) (fun h38 => ?_)
      · refine q_s (pc' := 43) (ls' := [vR 2, vI a1, vI a2, vI a3, vI q37.1]) (st' := [vR 2]) (g' := q37.2) k120_42 rfl rfl ?_
        refine q_getF (r := 132) (pc' := 46) k120_43 rfl rfl rfl rfl ?_
        refine q_s (pc' := 47) (ls' := [vR 2, vI a1, vI a2, vI a3, vI q37.1]) (st' := [vR 2, vR 132]) (g' := q37.2) k120_46 rfl rfl ?_
        refine q_getF (r := 135) (pc' := 50) k120_47 rfl rfl rfl rfl ?_
        refine q_s (pc' := 51) (ls' := [vR 2, vI a1, vI a2, vI a3, vI q37.1]) (st' := [vI a2, vR 135, vR 132]) (g' := q37.2) k120_50 rfl rfl ?_
        refine q_callV (ls0 := [vR 132, vR 135, vI a2, vU]) (rest := []) (pc' := 54) rfl k120_51 rfl (hy4 rfl rfl rfl rfl) rfl rfl hq_39 rfl (fun q39 => ?_)
        refine q_s (pc' := 55) (ls' := [vR 2, vI a1, vI a2, vI a3, vI q37.1]) (st' := [vI a3]) (g' := q39) k120_54 rfl rfl ?_
        refine q_if (P := a3 ≠ 0) (t := 85) (pc' := 58) k120_55 Iff.rfl rfl rfl (fun h40 => ?_) (fun h40 => ?_)
        · refine q_s (pc' := 86) (ls' := [vR 2, vI a1, vI a2, vI a3, vI q37.1]) (st' := [vR 2]) (g' := q39) k120_85 rfl rfl ?_
          refine q_s (pc' := 87) (ls' := [vR 2, vI a1, vI a2, vI a3, vI q37.1]) (st' := [vR 2, vR 2]) (g' := q39) k120_86 rfl rfl ?_
          refine q_getF (r := 118) (pc' := 90) k120_87 rfl rfl rfl rfl ?_
          refine q_s (pc' := 91) (ls' := [vR 2, vI a1, vI a2, vI a3, vI q37.1]) (st' := [vI a1, vR 118, vR 2]) (g' := q39) k120_90 rfl rfl ?_
          refine q_callV (ls0 := [vR 2, vR 118, vI a1]) (rest := []) (pc' := 94) rfl k120_91 rfl (hy4 rfl rfl rfl rfl) rfl rfl hq_110 rfl (fun q41 => ?_)
          refine q_s (pc' := 95) (ls' := [vR 2, vI a1, vI a2, vI a3, vI q37.1]) (st' := [vR 2]) (g' := q41) k120_94 rfl rfl ?_
          refine q_getF (r := 132) (pc' := 98) k120_95 rfl rfl rfl rfl ?_
          refine q_s (pc' := 99) (ls' := [vR 2, vI a1, vI a2, vI a3, vI q37.1]) (st' := [vR 2, vR 132]) (g' := q41) k120_98 rfl rfl ?_
          refine q_getF (r := 118) (pc' := 102) k120_99 rfl rfl rfl rfl ?_
          refine q_callV (ls0 := [vR 132, vR 118, vU]) (rest := []) (pc' := 105) rfl k120_102 rfl (hy4 rfl rfl rfl rfl) rfl rfl hq_44 rfl (fun q42 => ?_)
          refine q_s (pc' := 106) (ls' := [vR 2, vI a1, vI a2, vI a3, vI q37.1]) (st' := [vR 2]) (g' := q42) k120_105 rfl rfl ?_
          refine q_getF (r := 132) (pc' := 109) k120_106 rfl rfl rfl rfl ?_
          refine q_callL (ls0 := [vR 132, vU, vU, vU]) (rest := []) (pc' := 112) rfl k120_109 rfl (hy4 rfl rfl rfl rfl) rfl rfl hq_45 rfl (fun q43 => ?_)
          exact q_e k120_112 rfl rfl rfl
        · refine q_s (pc' := 59) (ls' := [vR 2, vI a1, vI a2, vI a3, vI q37.1]) (st' := [vR 2]) (g' := q39) k120_58 rfl rfl ?_
          refine q_getF (r := 132) (pc' := 62) k120_59 rfl rfl rfl rfl ?_
          refine q_s (pc' := 63) (ls' := [vR 2, vI a1, vI a2, vI a3, vI q37.1]) (st' := [vR 2, vR 132]) (g' := q39) k120_62 rfl rfl ?_
          refine q_getM (w := 0) (c := 3) (pc' := 66) rfl k120_63 rfl rfl rfl rfl rfl (fun h44 => ?_)
          refine q_s (pc' := 67) (ls' := [vR 2, vI a1, vI a2, vI a3, vI q37.1]) (st' := [vI a1, vR (q39 2 0), vR 132]) (g' := q39) k120_66 rfl rfl ?_
          refine q_goal (t := q39 2 0) (e := a1) (pc' := 70) rfl k120_67 h44 rfl rfl (fun h46 h47 => ?_)
          refine q_s (pc' := 71) (ls' := [vR 2, vI a1, vI a2, vI a3, vI q37.1]) (st' := [vR 2, vR (q39 2 0 + 2 + 2 * (q39 (q39 2 0 + 23 + 2 * a1) 2)), vR 132]) (g' := q39) k120_70 rfl rfl ?_
          refine q_getM (w := 0) (c := 3) (pc' := 74) rfl k120_71 rfl rfl rfl rfl rfl (fun h48 => ?_)
          refine q_getF (r := q39 2 0 + 22) (pc' := 77) k120_74 h48 rfl (kG_f h48).2.1 rfl ?_
          refine q_s (pc' := 78) (ls' := [vR 2, vI a1, vI a2, vI a3, vI q37.1]) (st' := [vI a1, vR (q39 2 0 + 22), vR (q39 2 0 + 2 + 2 * (q39 (q39 2 0 + 23 + 2 * a1) 2)), vR 132]) (g' := q39) k120_77 rfl rfl ?_
          refine q_aald (n := 16) (pc' := 79) rfl k120_78 (kG_f h48).2.2.2 rfl (q39 2 0 + 23 + 2 * a1) (fun h => (kG_e h48 h.1 h.2).1) (fun h49 => ?_)
          refine q_callV (ls0 := [vR 132, vR (q39 2 0 + 2 + 2 * (q39 (q39 2 0 + 23 + 2 * a1) 2)), vR (q39 2 0 + 23 + 2 * a1), vU]) (rest := []) (pc' := 82) rfl k120_79 rfl (hy4 rfl rfl rfl rfl) rfl rfl hq_43 rfl (fun q50 => ?_)
          refine q_s (pc' := 105) (ls' := [vR 2, vI a1, vI a2, vI a3, vI q37.1]) (st' := []) (g' := q50) k120_82 rfl rfl ?_
          refine q_s (pc' := 106) (ls' := [vR 2, vI a1, vI a2, vI a3, vI q37.1]) (st' := [vR 2]) (g' := q50) k120_105 rfl rfl ?_
          refine q_getF (r := 132) (pc' := 109) k120_106 rfl rfl rfl rfl ?_
          refine q_callL (ls0 := [vR 132, vU, vU, vU]) (rest := []) (pc' := 112) rfl k120_109 rfl (hy4 rfl rfl rfl rfl) rfl rfl hq_45 rfl (fun q51 => ?_)
          exact q_e k120_112 rfl rfl rfl
      · refine q_s (pc' := 35) (ls' := [vR 2, vI a1, vI a2, vI a3, vI q37.1]) (st' := [vR 2]) (g' := q37.2) k120_34 rfl rfl ?_
        refine q_s (pc' := 37) (ls' := [vR 2, vI a1, vI a2, vI a3, vI q37.1]) (st' := [vI q37.1, vR 2]) (g' := q37.2) k120_35 rfl rfl ?_
        refine q_callI (ls0 := [vR 2, vI q37.1]) (rest := []) (pc' := 40) rfl k120_37 rfl (hy4 rfl rfl rfl rfl) rfl rfl hq_94 rfl (fun q52 => ?_)
        refine q_s (pc' := 41) (ls' := [vR 2, vI a1, vI a2, vI a3, vI q37.1]) (st' := [vL q52.1]) (g' := q52.2) k120_40 rfl rfl ?_
        exact q_e k120_41 rfl rfl rfl
set_option maxHeartbeats 4000000 in
theorem jX_shareOfWhole_eq (L : Nat) (a1 : Int) (a2 : Int) (g : AMem) : jX_shareOfWhole L a1 a2 g = (jX_isClear L a1 g).bind (fun q1 => if q1.1 ≠ 0 then ((jX_makePlan L 118 a1 q1.2).bind (fun q3 => if a2 = 0 then (if kin (SH L) (q3 2 0) = 3 then (if 0 ≤ a1 ∧ a1 < 16 then ((jPl_price L 118 q3).bind (fun q7 => some (iw ((q3 (q3 2 0 + 23 + 2 * a1) 3) * q7.1), q7.2))) else none) else none) else (if a2 = 1 then (if kin (SH L) (q3 2 0) = 3 then ((jGr_whereStepsGo L (q3 2 0) a1 q3).bind (fun q10 => if q10.1 ≠ 2 then (some (0, q10.2)) else (if q10.2 118 3 ≤ 0 then (some (0, q10.2)) else (some (1, q10.2))))) else none) else (if a2 = 2 then (some (0, q3)) else (some (q3 118 3, q3)))))) else (if a2 ≠ 2 then (some (0, q1.2)) else (some (1, q1.2)))) := by
  unfold jX_shareOfWhole
  refine q_s (pc' := 1) (ls' := [vR 2, vI a1, vI a2]) (st' := [vR 2]) (g' := g) k121_0 rfl rfl ?_
  refine q_s (pc' := 2) (ls' := [vR 2, vI a1, vI a2]) (st' := [vI a1, vR 2]) (g' := g) k121_1 rfl rfl ?_
  refine q_callI (ls0 := [vR 2, vI a1]) (rest := []) (pc' := 5) rfl k121_2 rfl (hy4 rfl rfl rfl rfl) rfl rfl hq_101 rfl (fun q1 => ?_)
  refine q_if (P := q1.1 ≠ 0) (t := 19) (pc' := 8) k121_5 Iff.rfl rfl rfl (fun h2 => ?_) (fun h2 => ?_)
  · refine q_s (pc' := 20) (ls' := [vR 2, vI a1, vI a2]) (st' := [vR 2]) (g' := q1.2) k121_19 rfl rfl ?_
    refine q_s (pc' := 21) (ls' := [vR 2, vI a1, vI a2]) (st' := [vR 2, vR 2]) (g' := q1.2) k121_20 rfl rfl ?_
    refine q_getF (r := 118) (pc' := 24) k121_21 rfl rfl rfl rfl ?_
    refine q_s (pc' := 25) (ls' := [vR 2, vI a1, vI a2]) (st' := [vI a1, vR 118, vR 2]) (g' := q1.2) k121_24 rfl rfl ?_
    refine q_callV (ls0 := [vR 2, vR 118, vI a1]) (rest := []) (pc' := 28) rfl k121_25 rfl (hy4 rfl rfl rfl rfl) rfl rfl hq_110 rfl (fun q3 => ?_)
    refine q_s (pc' := 29) (ls' := [vR 2, vI a1, vI a2]) (st' := [vI a2]) (g' := q3) k121_28 rfl rfl ?_
    refine q_by (P := a2 = 0) (fun h4 => ?_) (fun h4 => ?_)
    · refine q_s (pc' := 56) (ls' := [vR 2, vI a1, vI a2]) (st' := []) (g' := q3) k121_29 rfl (e_top h4 rfl) ?_
      refine q_s (pc' := 57) (ls' := [vR 2, vI a1, vI a2]) (st' := [vR 2]) (g' := q3) k121_56 rfl rfl ?_
      refine q_getM (w := 0) (c := 3) (pc' := 60) rfl k121_57 rfl rfl rfl rfl rfl (fun h5 => ?_)
      refine q_getF (r := q3 2 0 + 22) (pc' := 63) k121_60 h5 rfl (kG_f h5).2.1 rfl ?_
      refine q_s (pc' := 64) (ls' := [vR 2, vI a1, vI a2]) (st' := [vI a1, vR (q3 2 0 + 22)]) (g' := q3) k121_63 rfl rfl ?_
      refine q_aald (n := 16) (pc' := 65) rfl k121_64 (kG_f h5).2.2.2 rfl (q3 2 0 + 23 + 2 * a1) (fun h => (kG_e h5 h.1 h.2).1) (fun h6 => ?_)
      refine q_getI (w := 3) (pc' := 68) k121_65 (kG_e h5 h6.1 h6.2).2 rfl rfl rfl ?_
      refine q_s (pc' := 69) (ls' := [vR 2, vI a1, vI a2]) (st' := [vR 2, vI (q3 (q3 2 0 + 23 + 2 * a1) 3)]) (g' := q3) k121_68 rfl rfl ?_
      refine q_getF (r := 118) (pc' := 72) k121_69 rfl rfl rfl rfl ?_
      refine q_callI (ls0 := [vR 118, vU, vU, vU]) (rest := [vI (q3 (q3 2 0 + 23 + 2 * a1) 3)]) (pc' := 75) rfl k121_72 rfl (hy4 rfl rfl rfl rfl) rfl rfl hq_67 rfl (fun q7 => ?_)
      refine q_s (pc' := 76) (ls' := [vR 2, vI a1, vI a2]) (st' := [vI (iw ((q3 (q3 2 0 + 23 + 2 * a1) 3) * q7.1))]) (g' := q7.2) k121_75 rfl rfl ?_
      exact q_e k121_76 rfl rfl rfl
    · skip
      refine q_by (P := a2 = 1) (fun h8 => ?_) (fun h8 => ?_)
      · refine q_s (pc' := 77) (ls' := [vR 2, vI a1, vI a2]) (st' := []) (g' := q3) k121_29 rfl (e_top h8 rfl) ?_
        refine q_s (pc' := 78) (ls' := [vR 2, vI a1, vI a2]) (st' := [vR 2]) (g' := q3) k121_77 rfl rfl ?_
        refine q_getM (w := 0) (c := 3) (pc' := 81) rfl k121_78 rfl rfl rfl rfl rfl (fun h9 => ?_)
        refine q_s (pc' := 82) (ls' := [vR 2, vI a1, vI a2]) (st' := [vI a1, vR (q3 2 0)]) (g' := q3) k121_81 rfl rfl ?_
        refine q_callI (ls0 := [vR (q3 2 0), vI a1]) (rest := []) (pc' := 85) rfl k121_82 rfl (hy4 rfl rfl (rcv0 rfl h9) rfl) rfl rfl hq_22 rfl (fun q10 => ?_)
        refine q_s (pc' := 86) (ls' := [vR 2, vI a1, vI a2]) (st' := [vI 2, vI q10.1]) (g' := q10.2) k121_85 rfl rfl ?_
        refine q_ic (P := q10.1 ≠ 2) (t := 103) (pc' := 89) k121_86 Iff.rfl rfl rfl (fun h11 => ?_) (fun h11 => ?_)
        · refine q_s (pc' := 104) (ls' := [vR 2, vI a1, vI a2]) (st' := [vI 0]) (g' := q10.2) k121_103 rfl rfl ?_
          exact q_e k121_104 rfl rfl rfl
        · refine q_s (pc' := 90) (ls' := [vR 2, vI a1, vI a2]) (st' := [vR 2]) (g' := q10.2) k121_89 rfl rfl ?_
          refine q_getF (r := 118) (pc' := 93) k121_90 rfl rfl rfl rfl ?_
          refine q_getI (w := 3) (pc' := 96) k121_93 rfl rfl rfl rfl ?_
          refine q_if (P := q10.2 118 3 ≤ 0) (t := 103) (pc' := 99) k121_96 Iff.rfl rfl rfl (fun h12 => ?_) (fun h12 => ?_)
          · refine q_s (pc' := 104) (ls' := [vR 2, vI a1, vI a2]) (st' := [vI 0]) (g' := q10.2) k121_103 rfl rfl ?_
            exact q_e k121_104 rfl rfl rfl
          · refine q_s (pc' := 100) (ls' := [vR 2, vI a1, vI a2]) (st' := [vI 1]) (g' := q10.2) k121_99 rfl rfl ?_
            refine q_s (pc' := 104) (ls' := [vR 2, vI a1, vI a2]) (st' := [vI 1]) (g' := q10.2) k121_100 rfl rfl ?_
            exact q_e k121_104 rfl rfl rfl
      · skip
        refine q_by (P := a2 = 2) (fun h13 => ?_) (fun h13 => ?_)
        · refine q_s (pc' := 105) (ls' := [vR 2, vI a1, vI a2]) (st' := []) (g' := q3) k121_29 rfl (e_top h13 rfl) ?_
          refine q_s (pc' := 106) (ls' := [vR 2, vI a1, vI a2]) (st' := [vI 0]) (g' := q3) k121_105 rfl rfl ?_
          exact q_e k121_106 rfl rfl rfl
        · skip
          refine q_s (pc' := 107) (ls' := [vR 2, vI a1, vI a2]) (st' := []) (g' := q3) k121_29 rfl (e_tsw (by omega) (by decide)) ?_
          refine q_s (pc' := 108) (ls' := [vR 2, vI a1, vI a2]) (st' := [vR 2]) (g' := q3) k121_107 rfl rfl ?_
          refine q_getF (r := 118) (pc' := 111) k121_108 rfl rfl rfl rfl ?_
          refine q_getI (w := 3) (pc' := 114) k121_111 rfl rfl rfl rfl ?_
          exact q_e k121_114 rfl rfl rfl
  · refine q_s (pc' := 9) (ls' := [vR 2, vI a1, vI a2]) (st' := [vI a2]) (g' := q1.2) k121_8 rfl rfl ?_
    refine q_s (pc' := 10) (ls' := [vR 2, vI a1, vI a2]) (st' := [vI 2, vI a2]) (g' := q1.2) k121_9 rfl rfl ?_
    refine q_ic (P := a2 ≠ 2) (t := 17) (pc' := 13) k121_10 Iff.rfl rfl rfl (fun h14 => ?_) (fun h14 => ?_)
    · refine q_s (pc' := 18) (ls' := [vR 2, vI a1, vI a2]) (st' := [vI 0]) (g' := q1.2) k121_17 rfl rfl ?_
      exact q_e k121_18 rfl rfl rfl
    · refine q_s (pc' := 14) (ls' := [vR 2, vI a1, vI a2]) (st' := [vI 1]) (g' := q1.2) k121_13 rfl rfl ?_
      refine q_s (pc' := 18) (ls' := [vR 2, vI a1, vI a2]) (st' := [vI 1]) (g' := q1.2) k121_14 rfl rfl ?_
      exact q_e k121_18 rfl rfl rfl
set_option maxHeartbeats 4000000 in
theorem jX_whole_eq (L : Nat) (a1 : Int) (g : AMem) : jX_whole L a1 g = (jX_isBelow L a1 4 g).bind (fun q1 => if q1.1 ≠ 0 then (jX_whole_20 L a1 0 0 q1.2) else ((jX_refuse L (-202) q1.2).bind (fun q3 => some (q3.1, q3.2)))) := by
  unfold jX_whole
  refine q_s (pc' := 1) (ls' := [vR 2, vI a1, vU, vU]) (st' := [vI a1]) (g' := g) k122_0 rfl rfl ?_
  refine q_s (pc' := 2) (ls' := [vR 2, vI a1, vU, vU]) (st' := [vI 4, vI a1]) (g' := g) k122_1 rfl rfl ?_
  refine q_callI (ls0 := [vI a1, vI 4]) (rest := []) (pc' := 5) rfl k122_2 rfl (hy4 rfl rfl rfl rfl) rfl rfl hq_13 rfl (fun q1 => ?_)
  refine q_if (P := q1.1 ≠ 0) (t := 16) (pc' := 8) k122_5 Iff.rfl rfl rfl (fun h2 => ?_) (fun h2 => ?_)
  · refine q_s (pc' := 17) (ls' := [vR 2, vI a1, vU, vU]) (st' := [vI 0]) (g' := q1.2) k122_16 rfl rfl ?_
    refine q_s (pc' := 18) (ls' := [vR 2, vI a1, vI 0, vU]) (st' := []) (g' := q1.2) k122_17 rfl rfl ?_
    refine q_s (pc' := 19) (ls' := [vR 2, vI a1, vI 0, vU]) (st' := [vI 0]) (g' := q1.2) k122_18 rfl rfl ?_
    refine q_s (pc' := 20) (ls' := [vR 2, vI a1, vI 0, vI 0]) (st' := []) (g' := q1.2) k122_19 rfl rfl ?_
    rfl
  · refine q_s (pc' := 9) (ls' := [vR 2, vI a1, vU, vU]) (st' := [vR 2]) (g' := q1.2) k122_8 rfl rfl ?_
    refine q_s (pc' := 12) (ls' := [vR 2, vI a1, vU, vU]) (st' := [vI (-202), vR 2]) (g' := q1.2) k122_9 rfl rfl ?_
    refine q_callI (ls0 := [vR 2, vI (-202)]) (rest := []) (pc' := 15) rfl k122_12 rfl (hy4 rfl rfl rfl rfl) rfl rfl hq_94 rfl (fun q3 => ?_)
    exact q_e k122_15 rfl rfl rfl
set_option maxHeartbeats 4000000 in
theorem jX_whole_20_eq (L : Nat) (l1 : Int) (l2 : Int) (l3 : Int) (g : AMem) : jX_whole_20 L l1 l2 l3 g = if kin (SH L) (g 2 0) = 3 then (if g (g 2 0) 3 ≤ l3 then (some (l2, g)) else ((jX_shareOfWhole L l3 l1 g).bind (fun q6 => jX_whole_20 L l1 (iw (l2 + q6.1)) (iw (l3 + 1)) q6.2))) else none := by
  unfold jX_whole_20
  refine q_s (pc' := 21) (ls' := [vR 2, vI l1, vI l2, vI l3]) (st' := [vI l3]) (g' := g) k122_20 rfl rfl ?_
  refine q_s (pc' := 22) (ls' := [vR 2, vI l1, vI l2, vI l3]) (st' := [vR 2, vI l3]) (g' := g) k122_21 rfl rfl ?_
  refine q_getM (w := 0) (c := 3) (pc' := 25) rfl k122_22 rfl rfl rfl rfl rfl (fun h4 => ?_)
  refine q_getI (w := 3) (pc' := 28) k122_25 h4 rfl rfl rfl ?_
  refine q_ic (P := g (g 2 0) 3 ≤ l3) (t := 46) (pc' := 31) k122_28 Iff.rfl rfl rfl (fun h5 => ?_) (fun h5 => ?_)
  · refine q_s (pc' := 47) (ls' := [vR 2, vI l1, vI l2, vI l3]) (st' := [vI l2]) (g' := g) k122_46 rfl rfl ?_
    exact q_e k122_47 rfl rfl rfl
  · refine q_s (pc' := 32) (ls' := [vR 2, vI l1, vI l2, vI l3]) (st' := [vI l2]) (g' := g) k122_31 rfl rfl ?_
    refine q_s (pc' := 33) (ls' := [vR 2, vI l1, vI l2, vI l3]) (st' := [vR 2, vI l2]) (g' := g) k122_32 rfl rfl ?_
    refine q_s (pc' := 34) (ls' := [vR 2, vI l1, vI l2, vI l3]) (st' := [vI l3, vR 2, vI l2]) (g' := g) k122_33 rfl rfl ?_
    refine q_s (pc' := 35) (ls' := [vR 2, vI l1, vI l2, vI l3]) (st' := [vI l1, vI l3, vR 2, vI l2]) (g' := g) k122_34 rfl rfl ?_
    refine q_callI (ls0 := [vR 2, vI l3, vI l1]) (rest := [vI l2]) (pc' := 38) rfl k122_35 rfl (hy4 rfl rfl rfl rfl) rfl rfl hq_121 rfl (fun q6 => ?_)
    refine q_s (pc' := 39) (ls' := [vR 2, vI l1, vI l2, vI l3]) (st' := [vI (iw (l2 + q6.1))]) (g' := q6.2) k122_38 rfl rfl ?_
    refine q_s (pc' := 40) (ls' := [vR 2, vI l1, vI (iw (l2 + q6.1)), vI l3]) (st' := []) (g' := q6.2) k122_39 rfl rfl ?_
    refine q_s (pc' := 43) (ls' := [vR 2, vI l1, vI (iw (l2 + q6.1)), vI (iw (l3 + 1))]) (st' := []) (g' := q6.2) k122_40 rfl rfl ?_
    refine q_s (pc' := 20) (ls' := [vR 2, vI l1, vI (iw (l2 + q6.1)), vI (iw (l3 + 1))]) (st' := []) (g' := q6.2) k122_43 rfl rfl ?_
    rfl
set_option maxHeartbeats 4000000 in
theorem jX_weighedPrice_eq (L : Nat) (a1 : Int) (g : AMem) : jX_weighedPrice L a1 g = if kin (SH L) (g 2 0) = 3 then (if 0 ≤ a1 ∧ a1 < 16 then ((jX_priceBy L a1 (g 2 10) g).bind (fun q3 => some (iw ((g (g 2 0 + 23 + 2 * a1) 3) * q3.1), q3.2))) else none) else none := by
  unfold jX_weighedPrice
  refine q_s (pc' := 1) (ls' := [vR 2, vI a1]) (st' := [vR 2]) (g' := g) k123_0 rfl rfl ?_
  refine q_getM (w := 0) (c := 3) (pc' := 4) rfl k123_1 rfl rfl rfl rfl rfl (fun h1 => ?_)
  refine q_getF (r := g 2 0 + 22) (pc' := 7) k123_4 h1 rfl (kG_f h1).2.1 rfl ?_
  refine q_s (pc' := 8) (ls' := [vR 2, vI a1]) (st' := [vI a1, vR (g 2 0 + 22)]) (g' := g) k123_7 rfl rfl ?_
  refine q_aald (n := 16) (pc' := 9) rfl k123_8 (kG_f h1).2.2.2 rfl (g 2 0 + 23 + 2 * a1) (fun h => (kG_e h1 h.1 h.2).1) (fun h2 => ?_)
  refine q_getI (w := 3) (pc' := 12) k123_9 (kG_e h1 h2.1 h2.2).2 rfl rfl rfl ?_
  refine q_s (pc' := 13) (ls' := [vR 2, vI a1]) (st' := [vR 2, vI (g (g 2 0 + 23 + 2 * a1) 3)]) (g' := g) k123_12 rfl rfl ?_
  refine q_s (pc' := 14) (ls' := [vR 2, vI a1]) (st' := [vI a1, vR 2, vI (g (g 2 0 + 23 + 2 * a1) 3)]) (g' := g) k123_13 rfl rfl ?_
  refine q_s (pc' := 15) (ls' := [vR 2, vI a1]) (st' := [vR 2, vI a1, vR 2, vI (g (g 2 0 + 23 + 2 * a1) 3)]) (g' := g) k123_14 rfl rfl ?_
  refine q_getI (w := 10) (pc' := 18) k123_15 rfl rfl rfl rfl ?_
  refine q_callI (ls0 := [vR 2, vI a1, vI (g 2 10)]) (rest := [vI (g (g 2 0 + 23 + 2 * a1) 3)]) (pc' := 21) rfl k123_18 rfl (hy4 rfl rfl rfl rfl) rfl rfl hq_115 rfl (fun q3 => ?_)
  refine q_s (pc' := 22) (ls' := [vR 2, vI a1]) (st' := [vI (iw ((g (g 2 0 + 23 + 2 * a1) 3) * q3.1))]) (g' := q3.2) k123_21 rfl rfl ?_
  exact q_e k123_22 rfl rfl rfl
set_option maxHeartbeats 4000000 in
theorem jX_dearest_eq (L : Nat) (g : AMem) : jX_dearest L g = jX_dearest_8 L (-201) (-1) 0 g := by
  unfold jX_dearest
  refine q_s (pc' := 3) (ls' := [vR 2, vU, vU, vU]) (st' := [vI (-201)]) (g' := g) k124_0 rfl rfl ?_
  refine q_s (pc' := 4) (ls' := [vR 2, vI (-201), vU, vU]) (st' := []) (g' := g) k124_3 rfl rfl ?_
  refine q_s (pc' := 5) (ls' := [vR 2, vI (-201), vU, vU]) (st' := [vI (-1)]) (g' := g) k124_4 rfl rfl ?_
  refine q_s (pc' := 6) (ls' := [vR 2, vI (-201), vI (-1), vU]) (st' := []) (g' := g) k124_5 rfl rfl ?_
  refine q_s (pc' := 7) (ls' := [vR 2, vI (-201), vI (-1), vU]) (st' := [vI 0]) (g' := g) k124_6 rfl rfl ?_
  refine q_s (pc' := 8) (ls' := [vR 2, vI (-201), vI (-1), vI 0]) (st' := []) (g' := g) k124_7 rfl rfl ?_
  rfl
set_option maxHeartbeats 4000000 in
theorem jX_dearest_8_eq (L : Nat) (l1 : Int) (l2 : Int) (l3 : Int) (g : AMem) : jX_dearest_8 L l1 l2 l3 g = if kin (SH L) (g 2 0) = 3 then (if g (g 2 0) 3 ≤ l3 then (some (l1, g)) else ((jX_isClear L l3 g).bind (fun q3 => if q3.1 = 0 then (jX_dearest_8 L l1 l2 (iw (l3 + 1)) q3.2) else ((jX_weighedPrice L l3 q3.2).bind (fun q5 => if q5.1 ≤ l2 then (jX_dearest_8 L l1 l2 (iw (l3 + 1)) q5.2) else ((jX_weighedPrice L l3 q5.2).bind (fun q7 => jX_dearest_8 L l3 q7.1 (iw (l3 + 1)) q7.2))))))) else none := by
  unfold jX_dearest_8
  refine q_s (pc' := 9) (ls' := [vR 2, vI l1, vI l2, vI l3]) (st' := [vI l3]) (g' := g) k124_8 rfl rfl ?_
  refine q_s (pc' := 10) (ls' := [vR 2, vI l1, vI l2, vI l3]) (st' := [vR 2, vI l3]) (g' := g) k124_9 rfl rfl ?_
  refine q_getM (w := 0) (c := 3) (pc' := 13) rfl k124_10 rfl rfl rfl rfl rfl (fun h1 => ?_)
  refine q_getI (w := 3) (pc' := 16) k124_13 h1 rfl rfl rfl ?_
  refine q_ic (P := g (g 2 0) 3 ≤ l3) (t := 50) (pc' := 19) k124_16 Iff.rfl rfl rfl (fun h2 => ?_) (fun h2 => ?_)
  · refine q_s (pc' := 51) (ls' := [vR 2, vI l1, vI l2, vI l3]) (st' := [vI l1]) (g' := g) k124_50 rfl rfl ?_
    exact q_e k124_51 rfl rfl rfl
  · refine q_s (pc' := 20) (ls' := [vR 2, vI l1, vI l2, vI l3]) (st' := [vR 2]) (g' := g) k124_19 rfl rfl ?_
    refine q_s (pc' := 21) (ls' := [vR 2, vI l1, vI l2, vI l3]) (st' := [vI l3, vR 2]) (g' := g) k124_20 rfl rfl ?_
    refine q_callI (ls0 := [vR 2, vI l3]) (rest := []) (pc' := 24) rfl k124_21 rfl (hy4 rfl rfl rfl rfl) rfl rfl hq_101 rfl (fun q3 => ?_)
    refine q_if (P := q3.1 = 0) (t := 44) (pc' := 27) k124_24 Iff.rfl rfl rfl (fun h4 => ?_) (fun h4 => ?_)
    · refine q_s (pc' := 47) (ls' := [vR 2, vI l1, vI l2, vI (iw (l3 + 1))]) (st' := []) (g' := q3.2) k124_44 rfl rfl ?_
      refine q_s (pc' := 8) (ls' := [vR 2, vI l1, vI l2, vI (iw (l3 + 1))]) (st' := []) (g' := q3.2) k124_47 rfl rfl ?_
      rfl
    · refine q_s (pc' := 28) (ls' := [vR 2, vI l1, vI l2, vI l3]) (st' := [vR 2]) (g' := q3.2) k124_27 rfl rfl ?_
      refine q_s (pc' := 29) (ls' := [vR 2, vI l1, vI l2, vI l3]) (st' := [vI l3, vR 2]) (g' := q3.2) k124_28 rfl rfl ?_
      refine q_callI (ls0 := [vR 2, vI l3]) (rest := []) (pc' := 32) rfl k124_29 rfl (hy4 rfl rfl rfl rfl) rfl rfl hq_123 rfl (fun q5 => ?_)
      refine q_s (pc' := 33) (ls' := [vR 2, vI l1, vI l2, vI l3]) (st' := [vI l2, vI q5.1]) (g' := q5.2) k124_32 rfl rfl ?_
      refine q_ic (P := q5.1 ≤ l2) (t := 44) (pc' := 36) k124_33 Iff.rfl rfl rfl (fun h6 => ?_) (fun h6 => ?_)
      · refine q_s (pc' := 47) (ls' := [vR 2, vI l1, vI l2, vI (iw (l3 + 1))]) (st' := []) (g' := q5.2) k124_44 rfl rfl ?_
        refine q_s (pc' := 8) (ls' := [vR 2, vI l1, vI l2, vI (iw (l3 + 1))]) (st' := []) (g' := q5.2) k124_47 rfl rfl ?_
        rfl
      · refine q_s (pc' := 37) (ls' := [vR 2, vI l1, vI l2, vI l3]) (st' := [vI l3]) (g' := q5.2) k124_36 rfl rfl ?_
        refine q_s (pc' := 38) (ls' := [vR 2, vI l3, vI l2, vI l3]) (st' := []) (g' := q5.2) k124_37 rfl rfl ?_
        refine q_s (pc' := 39) (ls' := [vR 2, vI l3, vI l2, vI l3]) (st' := [vR 2]) (g' := q5.2) k124_38 rfl rfl ?_
        refine q_s (pc' := 40) (ls' := [vR 2, vI l3, vI l2, vI l3]) (st' := [vI l3, vR 2]) (g' := q5.2) k124_39 rfl rfl ?_
        refine q_callI (ls0 := [vR 2, vI l3]) (rest := []) (pc' := 43) rfl k124_40 rfl (hy4 rfl rfl rfl rfl) rfl rfl hq_123 rfl (fun q7 => ?_)
        refine q_s (pc' := 44) (ls' := [vR 2, vI l3, vI q7.1, vI l3]) (st' := []) (g' := q7.2) k124_43 rfl rfl ?_
        refine q_s (pc' := 47) (ls' := [vR 2, vI l3, vI q7.1, vI (iw (l3 + 1))]) (st' := []) (g' := q7.2) k124_44 rfl rfl ?_
        refine q_s (pc' := 8) (ls' := [vR 2, vI l3, vI q7.1, vI (iw (l3 + 1))]) (st' := []) (g' := q7.2) k124_47 rfl rfl ?_
        rfl
set_option maxHeartbeats 4000000 in
theorem jAr_fill_eq (L : Nat) (a1 : Int) (g : AMem) : jAr_fill L a1 g = jAr_fill_5 L a1 0 10 g := by
  unfold jAr_fill
  refine q_s (pc' := 1) (ls' := [vR 136, vI a1, vU, vU]) (st' := [vI 0]) (g' := g) k125_0 rfl rfl ?_
  refine q_s (pc' := 2) (ls' := [vR 136, vI a1, vI 0, vU]) (st' := []) (g' := g) k125_1 rfl rfl ?_
  refine q_s (pc' := 3) (ls' := [vR 136, vI a1, vI 0, vU]) (st' := [vR 136]) (g' := g) k125_2 rfl rfl ?_
  refine q_s (pc' := 4) (ls' := [vR 136, vI a1, vI 0, vU]) (st' := [vI 10]) (g' := g) k125_3 rfl rfl ?_
  refine q_s (pc' := 5) (ls' := [vR 136, vI a1, vI 0, vI 10]) (st' := []) (g' := g) k125_4 rfl rfl ?_
  rfl
set_option maxHeartbeats 4000000 in
theorem jAr_fill_5_eq (L : Nat) (l1 : Int) (l2 : Int) (l3 : Int) (g : AMem) : jAr_fill_5 L l1 l2 l3 g = if l3 ≤ l2 then (some g) else (if 0 ≤ l2 ∧ l2 < 10 then (jAr_fill_5 L l1 (iw (l2 + 1)) l3 (up g 136 l2 l1)) else none) := by
  unfold jAr_fill_5
  refine q_s (pc' := 6) (ls' := [vR 136, vI l1, vI l2, vI l3]) (st' := [vI l2]) (g' := g) k125_5 rfl rfl ?_
  refine q_s (pc' := 7) (ls' := [vR 136, vI l1, vI l2, vI l3]) (st' := [vI l3, vI l2]) (g' := g) k125_6 rfl rfl ?_
  refine q_ic (P := l3 ≤ l2) (t := 20) (pc' := 10) k125_7 Iff.rfl rfl rfl (fun h1 => ?_) (fun h1 => ?_)
  · exact q_e k125_20 rfl rfl rfl
  · refine q_s (pc' := 11) (ls' := [vR 136, vI l1, vI l2, vI l3]) (st' := [vR 136]) (g' := g) k125_10 rfl rfl ?_
    refine q_s (pc' := 12) (ls' := [vR 136, vI l1, vI l2, vI l3]) (st' := [vI l2, vR 136]) (g' := g) k125_11 rfl rfl ?_
    refine q_s (pc' := 13) (ls' := [vR 136, vI l1, vI l2, vI l3]) (st' := [vI l1, vI l2, vR 136]) (g' := g) k125_12 rfl rfl ?_
    refine q_iast (n := 10) (pc' := 14) rfl k125_13 rfl (by decide) rfl (fun h2 => ?_)
    refine q_s (pc' := 17) (ls' := [vR 136, vI l1, vI (iw (l2 + 1)), vI l3]) (st' := []) (g' := up g 136 l2 l1) k125_14 rfl rfl ?_
    refine q_s (pc' := 5) (ls' := [vR 136, vI l1, vI (iw (l2 + 1)), vI l3]) (st' := []) (g' := up g 136 l2 l1) k125_17 rfl rfl ?_
    rfl
set_option maxHeartbeats 4000000 in
theorem jX_goOneFurther_eq (L : Nat) (a1 : Int) (g : AMem) : jX_goOneFurther L a1 g = jX_goOneFurther_2 L a1 0 vU g := by
  unfold jX_goOneFurther
  refine q_s (pc' := 1) (ls' := [vR 2, vI a1, vU, vU]) (st' := [vI 0]) (g' := g) k126_0 rfl rfl ?_
  refine q_s (pc' := 2) (ls' := [vR 2, vI a1, vI 0, vU]) (st' := []) (g' := g) k126_1 rfl rfl ?_
  rfl
set_option maxHeartbeats 4000000 in
theorem jX_goOneFurther_2_eq (L : Nat) (l1 : Int) (l2 : Int) (w3 : AVal) (g : AMem) : jX_goOneFurther_2 L l1 l2 w3 g = if kin (SH L) (g 2 0) = 3 then (if g (g 2 0) 3 ≤ l2 then (some g) else (if kin (SH L) (g 2 0) = 3 then (if 0 ≤ l2 ∧ l2 < 16 then (if 0 ≤ g (g 2 0 + 23 + 2 * l2) 1 ∧ g (g 2 0 + 23 + 2 * l2) 1 < 10 then (if g 136 (g (g 2 0 + 23 + 2 * l2) 1) ≠ l1 then (jX_goOneFurther_2 L l1 (iw (l2 + 1)) (vR (g 2 0 + 23 + 2 * l2)) g) else (if 0 ≤ g (g 2 0 + 23 + 2 * l2) 2 ∧ g (g 2 0 + 23 + 2 * l2) 2 < 10 then (if g 136 (g (g 2 0 + 23 + 2 * l2) 2) ≠ (-201) then (jX_goOneFurther_2 L l1 (iw (l2 + 1)) (vR (g 2 0 + 23 + 2 * l2)) g) else (if 0 ≤ g (g 2 0 + 23 + 2 * l2) 2 ∧ g (g 2 0 + 23 + 2 * l2) 2 < 10 then (jX_goOneFurther_2 L l1 (iw (l2 + 1)) (vR (g 2 0 + 23 + 2 * l2)) (up g 136 (g (g 2 0 + 23 + 2 * l2) 2) (iw (l1 + 1)))) else none)) else none)) else none) else none) else none)) else none := by
  unfold jX_goOneFurther_2
  refine q_s (pc' := 3) (ls' := [vR 2, vI l1, vI l2, w3]) (st' := [vI l2]) (g' := g) k126_2 rfl rfl ?_
  refine q_s (pc' := 4) (ls' := [vR 2, vI l1, vI l2, w3]) (st' := [vR 2, vI l2]) (g' := g) k126_3 rfl rfl ?_
  refine q_getM (w := 0) (c := 3) (pc' := 7) rfl k126_4 rfl rfl rfl rfl rfl (fun h1 => ?_)
  refine q_getI (w := 3) (pc' := 10) k126_7 h1 rfl rfl rfl ?_
  refine q_ic (P := g (g 2 0) 3 ≤ l2) (t := 69) (pc' := 13) k126_10 Iff.rfl rfl rfl (fun h2 => ?_) (fun h2 => ?_)
  · exact q_e k126_69 rfl rfl rfl
  · refine q_s (pc' := 14) (ls' := [vR 2, vI l1, vI l2, w3]) (st' := [vR 2]) (g' := g) k126_13 rfl rfl ?_
    refine q_getM (w := 0) (c := 3) (pc' := 17) rfl k126_14 rfl rfl rfl rfl rfl (fun h3 => ?_)
    refine q_getF (r := g 2 0 + 22) (pc' := 20) k126_17 h3 rfl (kG_f h3).2.1 rfl ?_
    refine q_s (pc' := 21) (ls' := [vR 2, vI l1, vI l2, w3]) (st' := [vI l2, vR (g 2 0 + 22)]) (g' := g) k126_20 rfl rfl ?_
    refine q_aald (n := 16) (pc' := 22) rfl k126_21 (kG_f h3).2.2.2 rfl (g 2 0 + 23 + 2 * l2) (fun h => (kG_e h3 h.1 h.2).1) (fun h4 => ?_)
    refine q_stR_n (pc' := 23) (ls' := [vR 2, vI l1, vI l2, vR (g 2 0 + 23 + 2 * l2)]) k126_22 rfl rfl rfl (by have := (k2 (kG_e h3 h4.1 h4.2).2 (by decide)); omega) rfl ?_
    refine q_s (pc' := 24) (ls' := [vR 2, vI l1, vI l2, vR (g 2 0 + 23 + 2 * l2)]) (st' := [vR 2]) (g' := g) k126_23 rfl rfl ?_
    refine q_getF (r := 136) (pc' := 27) k126_24 rfl rfl rfl rfl ?_
    refine q_ldR_n (pc' := 28) k126_27 rfl rfl (by have := (k2 (kG_e h3 h4.1 h4.2).2 (by decide)); omega) ?_
    refine q_getI (w := 1) (pc' := 31) k126_28 (kG_e h3 h4.1 h4.2).2 rfl rfl rfl ?_
    refine q_iald (n := 10) (pc' := 32) rfl k126_31 rfl rfl (fun h5 => ?_)
    refine q_s (pc' := 33) (ls' := [vR 2, vI l1, vI l2, vR (g 2 0 + 23 + 2 * l2)]) (st' := [vI l1, vI (g 136 (g (g 2 0 + 23 + 2 * l2) 1))]) (g' := g) k126_32 rfl rfl ?_
    refine q_ic (P := g 136 (g (g 2 0 + 23 + 2 * l2) 1) ≠ l1) (t := 63) (pc' := 36) k126_33 Iff.rfl rfl rfl (fun h6 => ?_) (fun h6 => ?_)
    · refine q_s (pc' := 66) (ls' := [vR 2, vI l1, vI (iw (l2 + 1)), vR (g 2 0 + 23 + 2 * l2)]) (st' := []) (g' := g) k126_63 rfl rfl ?_
      refine q_s (pc' := 2) (ls' := [vR 2, vI l1, vI (iw (l2 + 1)), vR (g 2 0 + 23 + 2 * l2)]) (st' := []) (g' := g) k126_66 rfl rfl ?_
      rfl
    · refine q_s (pc' := 37) (ls' := [vR 2, vI l1, vI l2, vR (g 2 0 + 23 + 2 * l2)]) (st' := [vR 2]) (g' := g) k126_36 rfl rfl ?_
      refine q_getF (r := 136) (pc' := 40) k126_37 rfl rfl rfl rfl ?_
      refine q_ldR_n (pc' := 41) k126_40 rfl rfl (by have := (k2 (kG_e h3 h4.1 h4.2).2 (by decide)); omega) ?_
      refine q_getI (w := 2) (pc' := 44) k126_41 (kG_e h3 h4.1 h4.2).2 rfl rfl rfl ?_
      refine q_iald (n := 10) (pc' := 45) rfl k126_44 rfl rfl (fun h7 => ?_)
      refine q_s (pc' := 48) (ls' := [vR 2, vI l1, vI l2, vR (g 2 0 + 23 + 2 * l2)]) (st' := [vI (-201), vI (g 136 (g (g 2 0 + 23 + 2 * l2) 2))]) (g' := g) k126_45 rfl rfl ?_
      refine q_ic (P := g 136 (g (g 2 0 + 23 + 2 * l2) 2) ≠ (-201)) (t := 63) (pc' := 51) k126_48 Iff.rfl rfl rfl (fun h8 => ?_) (fun h8 => ?_)
      · refine q_s (pc' := 66) (ls' := [vR 2, vI l1, vI (iw (l2 + 1)), vR (g 2 0 + 23 + 2 * l2)]) (st' := []) (g' := g) k126_63 rfl rfl ?_
        refine q_s (pc' := 2) (ls' := [vR 2, vI l1, vI (iw (l2 + 1)), vR (g 2 0 + 23 + 2 * l2)]) (st' := []) (g' := g) k126_66 rfl rfl ?_
        rfl
      · refine q_s (pc' := 52) (ls' := [vR 2, vI l1, vI l2, vR (g 2 0 + 23 + 2 * l2)]) (st' := [vR 2]) (g' := g) k126_51 rfl rfl ?_
        refine q_getF (r := 136) (pc' := 55) k126_52 rfl rfl rfl rfl ?_
        refine q_ldR_n (pc' := 56) k126_55 rfl rfl (by have := (k2 (kG_e h3 h4.1 h4.2).2 (by decide)); omega) ?_
        refine q_getI (w := 2) (pc' := 59) k126_56 (kG_e h3 h4.1 h4.2).2 rfl rfl rfl ?_
        refine q_s (pc' := 60) (ls' := [vR 2, vI l1, vI l2, vR (g 2 0 + 23 + 2 * l2)]) (st' := [vI l1, vI (g (g 2 0 + 23 + 2 * l2) 2), vR 136]) (g' := g) k126_59 rfl rfl ?_
        refine q_s (pc' := 61) (ls' := [vR 2, vI l1, vI l2, vR (g 2 0 + 23 + 2 * l2)]) (st' := [vI 1, vI l1, vI (g (g 2 0 + 23 + 2 * l2) 2), vR 136]) (g' := g) k126_60 rfl rfl ?_
        refine q_s (pc' := 62) (ls' := [vR 2, vI l1, vI l2, vR (g 2 0 + 23 + 2 * l2)]) (st' := [vI (iw (l1 + 1)), vI (g (g 2 0 + 23 + 2 * l2) 2), vR 136]) (g' := g) k126_61 rfl rfl ?_
        refine q_iast (n := 10) (pc' := 63) rfl k126_62 rfl (by decide) rfl (fun h9 => ?_)
        refine q_s (pc' := 66) (ls' := [vR 2, vI l1, vI (iw (l2 + 1)), vR (g 2 0 + 23 + 2 * l2)]) (st' := []) (g' := up g 136 (g (g 2 0 + 23 + 2 * l2) 2) (iw (l1 + 1))) k126_63 rfl rfl ?_
        refine q_s (pc' := 2) (ls' := [vR 2, vI l1, vI (iw (l2 + 1)), vR (g 2 0 + 23 + 2 * l2)]) (st' := []) (g' := up g 136 (g (g 2 0 + 23 + 2 * l2) 2) (iw (l1 + 1))) k126_66 rfl rfl ?_
        rfl
set_option maxHeartbeats 4000000 in
theorem jX_reach_eq (L : Nat) (a1 : Int) (a2 : Int) (g : AMem) : jX_reach L a1 a2 g = if kin (SH L) (g 2 0) = 3 then ((jGr_hasBlock L (g 2 0) a1 g).bind (fun q2 => if q2.1 = 0 then ((jX_refuse L (-202) q2.2).bind (fun q4 => some (q4.1, q4.2))) else (if kin (SH L) (q2.2 2 0) = 3 then ((jGr_hasBlock L (q2.2 2 0) a2 q2.2).bind (fun q6 => if q6.1 ≠ 0 then ((jAr_fill L (-201) q6.2).bind (fun q8 => if 0 ≤ a1 ∧ a1 < 10 then (jX_reach_49 L a1 a2 0 (up q8 136 a1 0)) else none)) else ((jX_refuse L (-202) q6.2).bind (fun q10 => some (q10.1, q10.2))))) else none))) else none := by
  unfold jX_reach
  refine q_s (pc' := 1) (ls' := [vR 2, vI a1, vI a2, vU]) (st' := [vR 2]) (g' := g) k127_0 rfl rfl ?_
  refine q_getM (w := 0) (c := 3) (pc' := 4) rfl k127_1 rfl rfl rfl rfl rfl (fun h1 => ?_)
  refine q_s (pc' := 5) (ls' := [vR 2, vI a1, vI a2, vU]) (st' := [vI a1, vR (g 2 0)]) (g' := g) k127_4 rfl rfl ?_
  refine q_callI (ls0 := [vR (g 2 0), vI a1]) (rest := []) (pc' := 8) rfl k127_5 rfl (hy4 rfl rfl (rcv0 rfl h1) rfl) rfl rfl hq_14 rfl (fun q2 => ?_)
  refine q_if (P := q2.1 = 0) (t := 22) (pc' := 11) k127_8 Iff.rfl rfl rfl (fun h3 => ?_) (fun h3 => ?_)
  · refine q_s (pc' := 23) (ls' := [vR 2, vI a1, vI a2, vU]) (st' := [vR 2]) (g' := q2.2) k127_22 rfl rfl ?_
    refine q_s (pc' := 26) (ls' := [vR 2, vI a1, vI a2, vU]) (st' := [vI (-202), vR 2]) (g' := q2.2) k127_23 rfl rfl ?_
    refine q_callI (ls0 := [vR 2, vI (-202)]) (rest := []) (pc' := 29) rfl k127_26 rfl (hy4 rfl rfl rfl rfl) rfl rfl hq_94 rfl (fun q4 => ?_)
    exact q_e k127_29 rfl rfl rfl
  · refine q_s (pc' := 12) (ls' := [vR 2, vI a1, vI a2, vU]) (st' := [vR 2]) (g' := q2.2) k127_11 rfl rfl ?_
    refine q_getM (w := 0) (c := 3) (pc' := 15) rfl k127_12 rfl rfl rfl rfl rfl (fun h5 => ?_)
    refine q_s (pc' := 16) (ls' := [vR 2, vI a1, vI a2, vU]) (st' := [vI a2, vR (q2.2 2 0)]) (g' := q2.2) k127_15 rfl rfl ?_
    refine q_callI (ls0 := [vR (q2.2 2 0), vI a2]) (rest := []) (pc' := 19) rfl k127_16 rfl (hy4 rfl rfl (rcv0 rfl h5) rfl) rfl rfl hq_14 rfl (fun q6 => ?_)
    refine q_if (P := q6.1 ≠ 0) (t := 30) (pc' := 22) k127_19 Iff.rfl rfl rfl (fun h7 => ?_) (fun h7 => ?_)
    · refine q_s (pc' := 31) (ls' := [vR 2, vI a1, vI a2, vU]) (st' := [vR 2]) (g' := q6.2) k127_30 rfl rfl ?_
      refine q_getF (r := 136) (pc' := 34) k127_31 rfl rfl rfl rfl ?_
      refine q_s (pc' := 37) (ls' := [vR 2, vI a1, vI a2, vU]) (st' := [vI (-201), vR 136]) (g' := q6.2) k127_34 rfl rfl ?_
      refine q_callV (ls0 := [vR 136, vI (-201), vU, vU]) (rest := []) (pc' := 40) rfl k127_37 rfl (hy4 rfl rfl rfl rfl) rfl rfl hq_125 rfl (fun q8 => ?_)
      refine q_s (pc' := 41) (ls' := [vR 2, vI a1, vI a2, vU]) (st' := [vR 2]) (g' := q8) k127_40 rfl rfl ?_
      refine q_getF (r := 136) (pc' := 44) k127_41 rfl rfl rfl rfl ?_
      refine q_s (pc' := 45) (ls' := [vR 2, vI a1, vI a2, vU]) (st' := [vI a1, vR 136]) (g' := q8) k127_44 rfl rfl ?_
      refine q_s (pc' := 46) (ls' := [vR 2, vI a1, vI a2, vU]) (st' := [vI 0, vI a1, vR 136]) (g' := q8) k127_45 rfl rfl ?_
      refine q_iast (n := 10) (pc' := 47) rfl k127_46 rfl (by decide) rfl (fun h9 => ?_)
      refine q_s (pc' := 48) (ls' := [vR 2, vI a1, vI a2, vU]) (st' := [vI 0]) (g' := up q8 136 a1 0) k127_47 rfl rfl ?_
      refine q_s (pc' := 49) (ls' := [vR 2, vI a1, vI a2, vI 0]) (st' := []) (g' := up q8 136 a1 0) k127_48 rfl rfl ?_
      rfl
    · refine q_s (pc' := 23) (ls' := [vR 2, vI a1, vI a2, vU]) (st' := [vR 2]) (g' := q6.2) k127_22 rfl rfl ?_
      refine q_s (pc' := 26) (ls' := [vR 2, vI a1, vI a2, vU]) (st' := [vI (-202), vR 2]) (g' := q6.2) k127_23 rfl rfl ?_
      refine q_callI (ls0 := [vR 2, vI (-202)]) (rest := []) (pc' := 29) rfl k127_26 rfl (hy4 rfl rfl rfl rfl) rfl rfl hq_94 rfl (fun q10 => ?_)
      exact q_e k127_29 rfl rfl rfl
set_option maxHeartbeats 4000000 in
theorem jX_reach_49_eq (L : Nat) (l1 : Int) (l2 : Int) (l3 : Int) (g : AMem) : jX_reach_49 L l1 l2 l3 g = if kin (SH L) (g 2 0) = 3 then (if g (g 2 0) 2 ≤ l3 then (if 0 ≤ l2 ∧ l2 < 10 then (some (g 136 l2, g)) else none) else ((jX_goOneFurther L l3 g).bind (fun q14 => jX_reach_49 L l1 l2 (iw (l3 + 1)) q14))) else none := by
  unfold jX_reach_49
  refine q_s (pc' := 50) (ls' := [vR 2, vI l1, vI l2, vI l3]) (st' := [vI l3]) (g' := g) k127_49 rfl rfl ?_
  refine q_s (pc' := 51) (ls' := [vR 2, vI l1, vI l2, vI l3]) (st' := [vR 2, vI l3]) (g' := g) k127_50 rfl rfl ?_
  refine q_getM (w := 0) (c := 3) (pc' := 54) rfl k127_51 rfl rfl rfl rfl rfl (fun h11 => ?_)
  refine q_getI (w := 2) (pc' := 57) k127_54 h11 rfl rfl rfl ?_
  refine q_ic (P := g (g 2 0) 2 ≤ l3) (t := 71) (pc' := 60) k127_57 Iff.rfl rfl rfl (fun h12 => ?_) (fun h12 => ?_)
  · refine q_s (pc' := 72) (ls' := [vR 2, vI l1, vI l2, vI l3]) (st' := [vR 2]) (g' := g) k127_71 rfl rfl ?_
    refine q_getF (r := 136) (pc' := 75) k127_72 rfl rfl rfl rfl ?_
    refine q_s (pc' := 76) (ls' := [vR 2, vI l1, vI l2, vI l3]) (st' := [vI l2, vR 136]) (g' := g) k127_75 rfl rfl ?_
    refine q_iald (n := 10) (pc' := 77) rfl k127_76 rfl rfl (fun h13 => ?_)
    exact q_e k127_77 rfl rfl rfl
  · refine q_s (pc' := 61) (ls' := [vR 2, vI l1, vI l2, vI l3]) (st' := [vR 2]) (g' := g) k127_60 rfl rfl ?_
    refine q_s (pc' := 62) (ls' := [vR 2, vI l1, vI l2, vI l3]) (st' := [vI l3, vR 2]) (g' := g) k127_61 rfl rfl ?_
    refine q_callV (ls0 := [vR 2, vI l3, vU, vU]) (rest := []) (pc' := 65) rfl k127_62 rfl (hy4 rfl rfl rfl rfl) rfl rfl hq_126 rfl (fun q14 => ?_)
    refine q_s (pc' := 68) (ls' := [vR 2, vI l1, vI l2, vI (iw (l3 + 1))]) (st' := []) (g' := q14) k127_65 rfl rfl ?_
    refine q_s (pc' := 49) (ls' := [vR 2, vI l1, vI l2, vI (iw (l3 + 1))]) (st' := []) (g' := q14) k127_68 rfl rfl ?_
    rfl
set_option maxHeartbeats 4000000 in
theorem jX_drawBlock_eq (L : Nat) (a1 : Int) (g : AMem) : jX_drawBlock L a1 g = if kin (SH L) (g 2 0) = 3 then ((jGr_addBlock L (g 2 0) g).bind (fun q2 => jX_drawBlock_10 L a1 q2.1 0 vU q2.2)) else none := by
  unfold jX_drawBlock
  refine q_s (pc' := 1) (ls' := [vR 2, vI a1, vU, vU, vU]) (st' := [vR 2]) (g' := g) k128_0 rfl rfl ?_
  refine q_getM (w := 0) (c := 3) (pc' := 4) rfl k128_1 rfl rfl rfl rfl rfl (fun h1 => ?_)
  refine q_callI (ls0 := [vR (g 2 0)]) (rest := []) (pc' := 7) rfl k128_4 rfl (hy4 rfl rfl (rcv0 rfl h1) rfl) rfl rfl hq_17 rfl (fun q2 => ?_)
  refine q_s (pc' := 8) (ls' := [vR 2, vI a1, vI q2.1, vU, vU]) (st' := []) (g' := q2.2) k128_7 rfl rfl ?_
  refine q_s (pc' := 9) (ls' := [vR 2, vI a1, vI q2.1, vU, vU]) (st' := [vI 0]) (g' := q2.2) k128_8 rfl rfl ?_
  refine q_s (pc' := 10) (ls' := [vR 2, vI a1, vI q2.1, vI 0, vU]) (st' := []) (g' := q2.2) k128_9 rfl rfl ?_
  rfl
set_option maxHeartbeats 4000000 in
theorem jX_drawBlock_10_eq (L : Nat) (l1 : Int) (l2 : Int) (l3 : Int) (w4 : AVal) (g : AMem) : jX_drawBlock_10 L l1 l2 l3 w4 g = if l1 ≤ l3 then (some g) else ((jDi_nextBelow L 3 g).bind (fun q4 => if kin (SH L) (q4.2 2 0) = 3 then ((jRg_asTold L (iw (4 * l3)) ((Int32.ofInt 4 >>> (Int32.ofInt q4.1 &&& 31)).toInt) q4.2).bind (fun q6 => (jGr_addParameter L (q4.2 2 0) l2 q6.1 q6.2).bind (fun q7 => jX_drawBlock_10 L l1 l2 (iw (l3 + 1)) (vI ((Int32.ofInt 4 >>> (Int32.ofInt q4.1 &&& 31)).toInt)) q7.2))) else none)) := by
  unfold jX_drawBlock_10
  refine q_s (pc' := 11) (ls' := [vR 2, vI l1, vI l2, vI l3, w4]) (st' := [vI l3]) (g' := g) k128_10 rfl rfl ?_
  refine q_s (pc' := 12) (ls' := [vR 2, vI l1, vI l2, vI l3, w4]) (st' := [vI l1, vI l3]) (g' := g) k128_11 rfl rfl ?_
  refine q_ic (P := l1 ≤ l3) (t := 50) (pc' := 15) k128_12 Iff.rfl rfl rfl (fun h3 => ?_) (fun h3 => ?_)
  · exact q_e k128_50 rfl rfl rfl
  · refine q_s (pc' := 16) (ls' := [vR 2, vI l1, vI l2, vI l3, w4]) (st' := [vI 4]) (g' := g) k128_15 rfl rfl ?_
    refine q_s (pc' := 17) (ls' := [vR 2, vI l1, vI l2, vI l3, w4]) (st' := [vR 2, vI 4]) (g' := g) k128_16 rfl rfl ?_
    refine q_getF (r := 135) (pc' := 20) k128_17 rfl rfl rfl rfl ?_
    refine q_s (pc' := 21) (ls' := [vR 2, vI l1, vI l2, vI l3, w4]) (st' := [vI 3, vR 135, vI 4]) (g' := g) k128_20 rfl rfl ?_
    refine q_callI (ls0 := [vR 135, vI 3]) (rest := [vI 4]) (pc' := 24) rfl k128_21 rfl (hy4 rfl rfl rfl rfl) rfl rfl hq_8 rfl (fun q4 => ?_)
    refine q_s (pc' := 25) (ls' := [vR 2, vI l1, vI l2, vI l3, w4]) (st' := [vI ((Int32.ofInt 4 >>> (Int32.ofInt q4.1 &&& 31)).toInt)]) (g' := q4.2) k128_24 rfl rfl ?_
    refine q_s (pc' := 27) (ls' := [vR 2, vI l1, vI l2, vI l3, vI ((Int32.ofInt 4 >>> (Int32.ofInt q4.1 &&& 31)).toInt)]) (st' := []) (g' := q4.2) k128_25 rfl rfl ?_
    refine q_s (pc' := 28) (ls' := [vR 2, vI l1, vI l2, vI l3, vI ((Int32.ofInt 4 >>> (Int32.ofInt q4.1 &&& 31)).toInt)]) (st' := [vR 2]) (g' := q4.2) k128_27 rfl rfl ?_
    refine q_getM (w := 0) (c := 3) (pc' := 31) rfl k128_28 rfl rfl rfl rfl rfl (fun h5 => ?_)
    refine q_s (pc' := 32) (ls' := [vR 2, vI l1, vI l2, vI l3, vI ((Int32.ofInt 4 >>> (Int32.ofInt q4.1 &&& 31)).toInt)]) (st' := [vI l2, vR (q4.2 2 0)]) (g' := q4.2) k128_31 rfl rfl ?_
    refine q_s (pc' := 33) (ls' := [vR 2, vI l1, vI l2, vI l3, vI ((Int32.ofInt 4 >>> (Int32.ofInt q4.1 &&& 31)).toInt)]) (st' := [vI 4, vI l2, vR (q4.2 2 0)]) (g' := q4.2) k128_32 rfl rfl ?_
    refine q_s (pc' := 34) (ls' := [vR 2, vI l1, vI l2, vI l3, vI ((Int32.ofInt 4 >>> (Int32.ofInt q4.1 &&& 31)).toInt)]) (st' := [vI l3, vI 4, vI l2, vR (q4.2 2 0)]) (g' := q4.2) k128_33 rfl rfl ?_
    refine q_s (pc' := 35) (ls' := [vR 2, vI l1, vI l2, vI l3, vI ((Int32.ofInt 4 >>> (Int32.ofInt q4.1 &&& 31)).toInt)]) (st' := [vI (iw (4 * l3)), vI l2, vR (q4.2 2 0)]) (g' := q4.2) k128_34 rfl rfl ?_
    refine q_s (pc' := 37) (ls' := [vR 2, vI l1, vI l2, vI l3, vI ((Int32.ofInt 4 >>> (Int32.ofInt q4.1 &&& 31)).toInt)]) (st' := [vI ((Int32.ofInt 4 >>> (Int32.ofInt q4.1 &&& 31)).toInt), vI (iw (4 * l3)), vI l2, vR (q4.2 2 0)]) (g' := q4.2) k128_35 rfl rfl ?_
    refine q_callI (ls0 := [vI (iw (4 * l3)), vI ((Int32.ofInt 4 >>> (Int32.ofInt q4.1 &&& 31)).toInt)]) (rest := [vI l2, vR (q4.2 2 0)]) (pc' := 40) rfl k128_37 rfl (hy4 rfl rfl rfl rfl) rfl rfl hq_60 rfl (fun q6 => ?_)
    refine q_callI (ls0 := [vR (q4.2 2 0), vI l2, vI q6.1, vU, vU]) (rest := []) (pc' := 43) rfl k128_40 rfl (hy4 rfl rfl (rcv0 rfl h5) rfl) rfl rfl hq_18 rfl (fun q7 => ?_)
    refine q_s (pc' := 44) (ls' := [vR 2, vI l1, vI l2, vI l3, vI ((Int32.ofInt 4 >>> (Int32.ofInt q4.1 &&& 31)).toInt)]) (st' := []) (g' := q7.2) k128_43 rfl rfl ?_
    refine q_s (pc' := 47) (ls' := [vR 2, vI l1, vI l2, vI (iw (l3 + 1)), vI ((Int32.ofInt 4 >>> (Int32.ofInt q4.1 &&& 31)).toInt)]) (st' := []) (g' := q7.2) k128_44 rfl rfl ?_
    refine q_s (pc' := 10) (ls' := [vR 2, vI l1, vI l2, vI (iw (l3 + 1)), vI ((Int32.ofInt 4 >>> (Int32.ofInt q4.1 &&& 31)).toInt)]) (st' := []) (g' := q7.2) k128_47 rfl rfl ?_
    rfl
set_option maxHeartbeats 4000000 in
theorem jX_drawEdge_eq (L : Nat) (g : AMem) : jX_drawEdge L g = (jDi_nextBelow L 8 g).bind (fun q1 => (jDi_nextBelow L 8 q1.2).bind (fun q2 => if kin (SH L) (q2.2 2 0) = 3 then ((jDi_nextBelow L 100 q2.2).bind (fun q4 => (jGr_addEdge L (q2.2 2 0) q1.1 q2.1 q4.1 q4.2).bind (fun q5 => if kin (SH L) (q5.2 2 0) = 3 then ((jGr_hasEdge L (q5.2 2 0) q5.1 q5.2).bind (fun q7 => if q7.1 ≠ 0 then (if kin (SH L) (q7.2 2 0) = 3 then (if 0 ≤ q5.1 ∧ q5.1 < 16 then (if 0 ≤ q7.2 (q7.2 2 0 + 23 + 2 * q5.1) 2 ∧ q7.2 (q7.2 2 0 + 23 + 2 * q5.1) 2 < 10 then (jX_drawEdge_64 L q1.1 q2.1 q5.1 (q7.2 2 0 + 2 + 2 * (q7.2 (q7.2 2 0 + 23 + 2 * q5.1) 2)) 0 vU q7.2) else none) else none) else none) else (some q7.2))) else none))) else none)) := by
  unfold jX_drawEdge
  refine q_s (pc' := 1) (ls' := [vR 2, vU, vU, vU, vU, vU, vU]) (st' := [vR 2]) (g' := g) k129_0 rfl rfl ?_
  refine q_getF (r := 135) (pc' := 4) k129_1 rfl rfl rfl rfl ?_
  refine q_s (pc' := 6) (ls' := [vR 2, vU, vU, vU, vU, vU, vU]) (st' := [vI 8, vR 135]) (g' := g) k129_4 rfl rfl ?_
  refine q_callI (ls0 := [vR 135, vI 8]) (rest := []) (pc' := 9) rfl k129_6 rfl (hy4 rfl rfl rfl rfl) rfl rfl hq_8 rfl (fun q1 => ?_)
  refine q_s (pc' := 10) (ls' := [vR 2, vI q1.1, vU, vU, vU, vU, vU]) (st' := []) (g' := q1.2) k129_9 rfl rfl ?_
  refine q_s (pc' := 11) (ls' := [vR 2, vI q1.1, vU, vU, vU, vU, vU]) (st' := [vR 2]) (g' := q1.2) k129_10 rfl rfl ?_
  refine q_getF (r := 135) (pc' := 14) k129_11 rfl rfl rfl rfl ?_
  refine q_s (pc' := 16) (ls' := [vR 2, vI q1.1, vU, vU, vU, vU, vU]) (st' := [vI 8, vR 135]) (g' := q1.2) k129_14 rfl rfl ?_
  refine q_callI (ls0 := [vR 135, vI 8]) (rest := []) (pc' := 19) rfl k129_16 rfl (hy4 rfl rfl rfl rfl) rfl rfl hq_8 rfl (fun q2 => ?_)
  refine q_s (pc' := 20) (ls' := [vR 2, vI q1.1, vI q2.1, vU, vU, vU, vU]) (st' := []) (g' := q2.2) k129_19 rfl rfl ?_
  refine q_s (pc' := 21) (ls' := [vR 2, vI q1.1, vI q2.1, vU, vU, vU, vU]) (st' := [vR 2]) (g' := q2.2) k129_20 rfl rfl ?_
  refine q_getM (w := 0) (c := 3) (pc' := 24) rfl k129_21 rfl rfl rfl rfl rfl (fun h3 => ?_)
  refine q_s (pc' := 25) (ls' := [vR 2, vI q1.1, vI q2.1, vU, vU, vU, vU]) (st' := [vI q1.1, vR (q2.2 2 0)]) (g' := q2.2) k129_24 rfl rfl ?_
  refine q_s (pc' := 26) (ls' := [vR 2, vI q1.1, vI q2.1, vU, vU, vU, vU]) (st' := [vI q2.1, vI q1.1, vR (q2.2 2 0)]) (g' := q2.2) k129_25 rfl rfl ?_
  refine q_s (pc' := 27) (ls' := [vR 2, vI q1.1, vI q2.1, vU, vU, vU, vU]) (st' := [vR 2, vI q2.1, vI q1.1, vR (q2.2 2 0)]) (g' := q2.2) k129_26 rfl rfl ?_
  refine q_getF (r := 135) (pc' := 30) k129_27 rfl rfl rfl rfl ?_
  refine q_s (pc' := 32) (ls' := [vR 2, vI q1.1, vI q2.1, vU, vU, vU, vU]) (st' := [vI 100, vR 135, vI q2.1, vI q1.1, vR (q2.2 2 0)]) (g' := q2.2) k129_30 rfl rfl ?_
  refine q_callI (ls0 := [vR 135, vI 100]) (rest := [vI q2.1, vI q1.1, vR (q2.2 2 0)]) (pc' := 35) rfl k129_32 rfl (hy4 rfl rfl rfl rfl) rfl rfl hq_8 rfl (fun q4 => ?_)
  refine q_callI (ls0 := [vR (q2.2 2 0), vI q1.1, vI q2.1, vI q4.1, vU]) (rest := []) (pc' := 38) rfl k129_35 rfl (hy4 rfl rfl (rcv0 rfl h3) rfl) rfl rfl hq_19 rfl (fun q5 => ?_)
  refine q_s (pc' := 39) (ls' := [vR 2, vI q1.1, vI q2.1, vI q5.1, vU, vU, vU]) (st' := []) (g' := q5.2) k129_38 rfl rfl ?_
  refine q_s (pc' := 40) (ls' := [vR 2, vI q1.1, vI q2.1, vI q5.1, vU, vU, vU]) (st' := [vR 2]) (g' := q5.2) k129_39 rfl rfl ?_
  refine q_getM (w := 0) (c := 3) (pc' := 43) rfl k129_40 rfl rfl rfl rfl rfl (fun h6 => ?_)
  refine q_s (pc' := 44) (ls' := [vR 2, vI q1.1, vI q2.1, vI q5.1, vU, vU, vU]) (st' := [vI q5.1, vR (q5.2 2 0)]) (g' := q5.2) k129_43 rfl rfl ?_
  refine q_callI (ls0 := [vR (q5.2 2 0), vI q5.1]) (rest := []) (pc' := 47) rfl k129_44 rfl (hy4 rfl rfl (rcv0 rfl h6) rfl) rfl rfl hq_15 rfl (fun q7 => ?_)
  refine q_if (P := q7.1 ≠ 0) (t := 51) (pc' := 50) k129_47 Iff.rfl rfl rfl (fun h8 => ?_) (fun h8 => ?_)
  · refine q_s (pc' := 52) (ls' := [vR 2, vI q1.1, vI q2.1, vI q5.1, vU, vU, vU]) (st' := [vR 2]) (g' := q7.2) k129_51 rfl rfl ?_
    refine q_getM (w := 0) (c := 3) (pc' := 55) rfl k129_52 rfl rfl rfl rfl rfl (fun h9 => ?_)
    refine q_s (pc' := 56) (ls' := [vR 2, vI q1.1, vI q2.1, vI q5.1, vU, vU, vU]) (st' := [vI q5.1, vR (q7.2 2 0)]) (g' := q7.2) k129_55 rfl rfl ?_
    refine q_goal (t := q7.2 2 0) (e := q5.1) (pc' := 59) rfl k129_56 h9 rfl rfl (fun h11 h12 => ?_)
    refine q_stR_i (pc' := 61) (ls' := [vR 2, vI q1.1, vI q2.1, vI q5.1, vR (q7.2 2 0 + 2 + 2 * (q7.2 (q7.2 2 0 + 23 + 2 * q5.1) 2)), vU, vU]) k129_59 rfl rfl rfl (by have := (k2 (kG_b h9 h12.1 h12.2).2 (by decide)); omega) rfl ?_
    refine q_s (pc' := 62) (ls' := [vR 2, vI q1.1, vI q2.1, vI q5.1, vR (q7.2 2 0 + 2 + 2 * (q7.2 (q7.2 2 0 + 23 + 2 * q5.1) 2)), vU, vU]) (st' := [vI 0]) (g' := q7.2) k129_61 rfl rfl ?_
    refine q_s (pc' := 64) (ls' := [vR 2, vI q1.1, vI q2.1, vI q5.1, vR (q7.2 2 0 + 2 + 2 * (q7.2 (q7.2 2 0 + 23 + 2 * q5.1) 2)), vI 0, vU]) (st' := []) (g' := q7.2) k129_62 rfl rfl ?_
    rfl
  · exact q_e k129_50 rfl rfl rfl
set_option maxHeartbeats 4000000 in
theorem jX_drawEdge_64_eq (L : Nat) (l1 : Int) (l2 : Int) (l3 : Int) (r4 : Int) (l5 : Int) (w6 : AVal) (g : AMem) (hr4 : kin (SH L) r4 = 0) : jX_drawEdge_64 L l1 l2 l3 r4 l5 w6 g = if g r4 1 ≤ l5 then (some g) else ((jDi_nextBelow L 8 g).bind (fun q14 => if kin (SH L) (q14.2 2 0) = 3 then (if 0 ≤ l3 ∧ l3 < 16 then (if q14.1 ≠ 7 then (if 0 ≤ l5 ∧ l5 < 6 then ((jRg_width L (q14.2 (r4 + 1) l5) q14.2).bind (fun q19 => (jRg_asTold L (iw (4 * q14.1)) q19.1 q19.2).bind (fun q20 => if 0 ≤ l5 ∧ l5 < 6 then (jX_drawEdge_64 L l1 l2 l3 r4 (iw (l5 + 1)) (vI q14.1) (up q20.2 (q14.2 2 0 + 23 + 2 * l3 + 1) l5 q20.1)) else none))) else none) else ((jRg_toldConstant L (iw (lw ((lw ((q14.2 135 0).tdiv 1024)) - (lw ((q14.2 135 0).tdiv 1024)).tdiv 100 * 100))) q14.2).bind (fun q22 => if 0 ≤ l5 ∧ l5 < 6 then (jX_drawEdge_64 L l1 l2 l3 r4 (iw (l5 + 1)) (vI q14.1) (up q22.2 (q14.2 2 0 + 23 + 2 * l3 + 1) l5 q22.1)) else none))) else none) else none)) := by
  unfold jX_drawEdge_64
  refine q_s (pc' := 66) (ls' := [vR 2, vI l1, vI l2, vI l3, vR r4, vI l5, w6]) (st' := [vI l5]) (g' := g) k129_64 rfl rfl ?_
  refine q_ldR_i (pc' := 68) k129_66 rfl rfl (by have := (k2 hr4 (by decide)); omega) ?_
  refine q_getI (w := 1) (pc' := 71) k129_68 hr4 rfl rfl rfl ?_
  refine q_ic (P := g r4 1 ≤ l5) (t := 153) (pc' := 74) k129_71 Iff.rfl rfl rfl (fun h13 => ?_) (fun h13 => ?_)
  · exact q_e k129_153 rfl rfl rfl
  · refine q_s (pc' := 75) (ls' := [vR 2, vI l1, vI l2, vI l3, vR r4, vI l5, w6]) (st' := [vR 2]) (g' := g) k129_74 rfl rfl ?_
    refine q_getF (r := 135) (pc' := 78) k129_75 rfl rfl rfl rfl ?_
    refine q_s (pc' := 80) (ls' := [vR 2, vI l1, vI l2, vI l3, vR r4, vI l5, w6]) (st' := [vI 8, vR 135]) (g' := g) k129_78 rfl rfl ?_
    refine q_callI (ls0 := [vR 135, vI 8]) (rest := []) (pc' := 83) rfl k129_80 rfl (hy4 rfl rfl rfl rfl) rfl rfl hq_8 rfl (fun q14 => ?_)
    refine q_s (pc' := 85) (ls' := [vR 2, vI l1, vI l2, vI l3, vR r4, vI l5, vI q14.1]) (st' := []) (g' := q14.2) k129_83 rfl rfl ?_
    refine q_s (pc' := 86) (ls' := [vR 2, vI l1, vI l2, vI l3, vR r4, vI l5, vI q14.1]) (st' := [vR 2]) (g' := q14.2) k129_85 rfl rfl ?_
    refine q_getM (w := 0) (c := 3) (pc' := 89) rfl k129_86 rfl rfl rfl rfl rfl (fun h15 => ?_)
    refine q_getF (r := q14.2 2 0 + 22) (pc' := 92) k129_89 h15 rfl (kG_f h15).2.1 rfl ?_
    refine q_s (pc' := 93) (ls' := [vR 2, vI l1, vI l2, vI l3, vR r4, vI l5, vI q14.1]) (st' := [vI l3, vR (q14.2 2 0 + 22)]) (g' := q14.2) k129_92 rfl rfl ?_
    refine q_aald (n := 16) (pc' := 94) rfl k129_93 (kG_f h15).2.2.2 rfl (q14.2 2 0 + 23 + 2 * l3) (fun h => (kG_e h15 h.1 h.2).1) (fun h16 => ?_)
    refine q_getF (r := q14.2 2 0 + 23 + 2 * l3 + 1) (pc' := 97) k129_94 (kG_e h15 h16.1 h16.2).2 rfl (kE (kG_e h15 h16.1 h16.2).2).1 rfl ?_
    refine q_s (pc' := 99) (ls' := [vR 2, vI l1, vI l2, vI l3, vR r4, vI l5, vI q14.1]) (st' := [vI l5, vR (q14.2 2 0 + 23 + 2 * l3 + 1)]) (g' := q14.2) k129_97 rfl rfl ?_
    refine q_s (pc' := 101) (ls' := [vR 2, vI l1, vI l2, vI l3, vR r4, vI l5, vI q14.1]) (st' := [vI q14.1, vI l5, vR (q14.2 2 0 + 23 + 2 * l3 + 1)]) (g' := q14.2) k129_99 rfl rfl ?_
    refine q_s (pc' := 103) (ls' := [vR 2, vI l1, vI l2, vI l3, vR r4, vI l5, vI q14.1]) (st' := [vI 7, vI q14.1, vI l5, vR (q14.2 2 0 + 23 + 2 * l3 + 1)]) (g' := q14.2) k129_101 rfl rfl ?_
    refine q_ic (P := q14.1 ≠ 7) (t := 128) (pc' := 106) k129_103 Iff.rfl rfl rfl (fun h17 => ?_) (fun h17 => ?_)
    · refine q_s (pc' := 129) (ls' := [vR 2, vI l1, vI l2, vI l3, vR r4, vI l5, vI q14.1]) (st' := [vI 4, vI l5, vR (q14.2 2 0 + 23 + 2 * l3 + 1)]) (g' := q14.2) k129_128 rfl rfl ?_
      refine q_s (pc' := 131) (ls' := [vR 2, vI l1, vI l2, vI l3, vR r4, vI l5, vI q14.1]) (st' := [vI q14.1, vI 4, vI l5, vR (q14.2 2 0 + 23 + 2 * l3 + 1)]) (g' := q14.2) k129_129 rfl rfl ?_
      refine q_s (pc' := 132) (ls' := [vR 2, vI l1, vI l2, vI l3, vR r4, vI l5, vI q14.1]) (st' := [vI (iw (4 * q14.1)), vI l5, vR (q14.2 2 0 + 23 + 2 * l3 + 1)]) (g' := q14.2) k129_131 rfl rfl ?_
      refine q_ldR_i (pc' := 134) k129_132 rfl rfl (by have := (k2 hr4 (by decide)); omega) ?_
      refine q_getF (r := r4 + 1) (pc' := 137) k129_134 hr4 rfl (kB hr4).1 rfl ?_
      refine q_s (pc' := 139) (ls' := [vR 2, vI l1, vI l2, vI l3, vR r4, vI l5, vI q14.1]) (st' := [vI l5, vR (r4 + 1), vI (iw (4 * q14.1)), vI l5, vR (q14.2 2 0 + 23 + 2 * l3 + 1)]) (g' := q14.2) k129_137 rfl rfl ?_
      refine q_iald (n := 6) (pc' := 140) rfl k129_139 (kB hr4).2 rfl (fun h18 => ?_)
      refine q_callI (ls0 := [vI (q14.2 (r4 + 1) l5)]) (rest := [vI (iw (4 * q14.1)), vI l5, vR (q14.2 2 0 + 23 + 2 * l3 + 1)]) (pc' := 143) rfl k129_140 rfl (hy4 rfl rfl rfl rfl) rfl rfl hq_2 rfl (fun q19 => ?_)
      refine q_callI (ls0 := [vI (iw (4 * q14.1)), vI q19.1]) (rest := [vI l5, vR (q14.2 2 0 + 23 + 2 * l3 + 1)]) (pc' := 146) rfl k129_143 rfl (hy4 rfl rfl rfl rfl) rfl rfl hq_60 rfl (fun q20 => ?_)
      refine q_iast (n := 6) (pc' := 147) rfl k129_146 (kE (kG_e h15 h16.1 h16.2).2).2 (by have := k2 (kG_e h15 h16.1 h16.2).2 (by decide); omega) rfl (fun h21 => ?_)
      refine q_s (pc' := 150) (ls' := [vR 2, vI l1, vI l2, vI l3, vR r4, vI (iw (l5 + 1)), vI q14.1]) (st' := []) (g' := up q20.2 (q14.2 2 0 + 23 + 2 * l3 + 1) l5 q20.1) k129_147 rfl rfl ?_
      refine q_s (pc' := 64) (ls' := [vR 2, vI l1, vI l2, vI l3, vR r4, vI (iw (l5 + 1)), vI q14.1]) (st' := []) (g' := up q20.2 (q14.2 2 0 + 23 + 2 * l3 + 1) l5 q20.1) k129_150 rfl rfl ?_
      rfl
    · refine q_s (pc' := 107) (ls' := [vR 2, vI l1, vI l2, vI l3, vR r4, vI l5, vI q14.1]) (st' := [vR 2, vI l5, vR (q14.2 2 0 + 23 + 2 * l3 + 1)]) (g' := q14.2) k129_106 rfl rfl ?_
      refine q_getF (r := 135) (pc' := 110) k129_107 rfl rfl rfl rfl ?_
      refine q_getL (w := 0) (pc' := 113) k129_110 rfl rfl rfl rfl ?_
      refine q_s (pc' := 116) (ls' := [vR 2, vI l1, vI l2, vI l3, vR r4, vI l5, vI q14.1]) (st' := [vL 1024, vL (q14.2 135 0), vI l5, vR (q14.2 2 0 + 23 + 2 * l3 + 1)]) (g' := q14.2) k129_113 rfl rfl ?_
      refine q_s (pc' := 117) (ls' := [vR 2, vI l1, vI l2, vI l3, vR r4, vI l5, vI q14.1]) (st' := [vL (lw ((q14.2 135 0).tdiv 1024)), vI l5, vR (q14.2 2 0 + 23 + 2 * l3 + 1)]) (g' := q14.2) k129_116 rfl rfl ?_
      refine q_s (pc' := 120) (ls' := [vR 2, vI l1, vI l2, vI l3, vR r4, vI l5, vI q14.1]) (st' := [vL 100, vL (lw ((q14.2 135 0).tdiv 1024)), vI l5, vR (q14.2 2 0 + 23 + 2 * l3 + 1)]) (g' := q14.2) k129_117 rfl rfl ?_
      refine q_s (pc' := 121) (ls' := [vR 2, vI l1, vI l2, vI l3, vR r4, vI l5, vI q14.1]) (st' := [vL (lw ((lw ((q14.2 135 0).tdiv 1024)) - (lw ((q14.2 135 0).tdiv 1024)).tdiv 100 * 100)), vI l5, vR (q14.2 2 0 + 23 + 2 * l3 + 1)]) (g' := q14.2) k129_120 rfl rfl ?_
      refine q_s (pc' := 122) (ls' := [vR 2, vI l1, vI l2, vI l3, vR r4, vI l5, vI q14.1]) (st' := [vI (iw (lw ((lw ((q14.2 135 0).tdiv 1024)) - (lw ((q14.2 135 0).tdiv 1024)).tdiv 100 * 100))), vI l5, vR (q14.2 2 0 + 23 + 2 * l3 + 1)]) (g' := q14.2) k129_121 rfl rfl ?_
      refine q_callI (ls0 := [vI (iw (lw ((lw ((q14.2 135 0).tdiv 1024)) - (lw ((q14.2 135 0).tdiv 1024)).tdiv 100 * 100)))]) (rest := [vI l5, vR (q14.2 2 0 + 23 + 2 * l3 + 1)]) (pc' := 125) rfl k129_122 rfl (hy4 rfl rfl rfl rfl) rfl rfl hq_81 rfl (fun q22 => ?_)
      refine q_s (pc' := 146) (ls' := [vR 2, vI l1, vI l2, vI l3, vR r4, vI l5, vI q14.1]) (st' := [vI q22.1, vI l5, vR (q14.2 2 0 + 23 + 2 * l3 + 1)]) (g' := q22.2) k129_125 rfl rfl ?_
      refine q_iast (n := 6) (pc' := 147) rfl k129_146 (kE (kG_e h15 h16.1 h16.2).2).2 (by have := k2 (kG_e h15 h16.1 h16.2).2 (by decide); omega) rfl (fun h23 => ?_)
      refine q_s (pc' := 150) (ls' := [vR 2, vI l1, vI l2, vI l3, vR r4, vI (iw (l5 + 1)), vI q14.1]) (st' := []) (g' := up q22.2 (q14.2 2 0 + 23 + 2 * l3 + 1) l5 q22.1) k129_147 rfl rfl ?_
      refine q_s (pc' := 64) (ls' := [vR 2, vI l1, vI l2, vI l3, vR r4, vI (iw (l5 + 1)), vI q14.1]) (st' := []) (g' := up q22.2 (q14.2 2 0 + 23 + 2 * l3 + 1) l5 q22.1) k129_150 rfl rfl ?_
      rfl
set_option maxHeartbeats 4000000 in
theorem jX_draw_eq (L : Nat) (a1 : Int) (a2 : Int) (a3 : Int) (g : AMem) : jX_draw L a1 a2 a3 g = (jX_isBelow L a1 1000000 g).bind (fun q1 => if q1.1 = 0 then ((jX_refuse L (-202) q1.2).bind (fun q3 => some (q3.1, q3.2))) else ((jX_isBelow L a2 7 q1.2).bind (fun q4 => if q4.1 = 0 then ((jX_refuse L (-202) q4.2).bind (fun q6 => some (q6.1, q6.2))) else ((jX_isBelow L a3 17 q4.2).bind (fun q7 => if q7.1 ≠ 0 then (if kin (SH L) (q7.2 2 0) = 3 then ((jGr_removeAll L (q7.2 2 0) q7.2).bind (fun q10 => (jDi_start L a1 q10).bind (fun q11 => jX_draw_53 L a1 a2 a3 0 q11))) else none) else ((jX_refuse L (-202) q7.2).bind (fun q12 => some (q12.1, q12.2)))))))) := by
  unfold jX_draw
  refine q_s (pc' := 1) (ls' := [vR 2, vI a1, vI a2, vI a3, vU]) (st' := [vI a1]) (g' := g) k130_0 rfl rfl ?_
  refine q_s (pc' := 3) (ls' := [vR 2, vI a1, vI a2, vI a3, vU]) (st' := [vI 1000000, vI a1]) (g' := g) k130_1 rfl rfl ?_
  refine q_callI (ls0 := [vI a1, vI 1000000]) (rest := []) (pc' := 6) rfl k130_3 rfl (hy4 rfl rfl rfl rfl) rfl rfl hq_13 rfl (fun q1 => ?_)
  refine q_if (P := q1.1 = 0) (t := 27) (pc' := 9) k130_6 Iff.rfl rfl rfl (fun h2 => ?_) (fun h2 => ?_)
  · refine q_s (pc' := 28) (ls' := [vR 2, vI a1, vI a2, vI a3, vU]) (st' := [vR 2]) (g' := q1.2) k130_27 rfl rfl ?_
    refine q_s (pc' := 31) (ls' := [vR 2, vI a1, vI a2, vI a3, vU]) (st' := [vI (-202), vR 2]) (g' := q1.2) k130_28 rfl rfl ?_
    refine q_callI (ls0 := [vR 2, vI (-202)]) (rest := []) (pc' := 34) rfl k130_31 rfl (hy4 rfl rfl rfl rfl) rfl rfl hq_94 rfl (fun q3 => ?_)
    exact q_e k130_34 rfl rfl rfl
  · refine q_s (pc' := 10) (ls' := [vR 2, vI a1, vI a2, vI a3, vU]) (st' := [vI a2]) (g' := q1.2) k130_9 rfl rfl ?_
    refine q_s (pc' := 12) (ls' := [vR 2, vI a1, vI a2, vI a3, vU]) (st' := [vI 7, vI a2]) (g' := q1.2) k130_10 rfl rfl ?_
    refine q_callI (ls0 := [vI a2, vI 7]) (rest := []) (pc' := 15) rfl k130_12 rfl (hy4 rfl rfl rfl rfl) rfl rfl hq_13 rfl (fun q4 => ?_)
    refine q_if (P := q4.1 = 0) (t := 27) (pc' := 18) k130_15 Iff.rfl rfl rfl (fun h5 => ?_) (fun h5 => ?_)
    · refine q_s (pc' := 28) (ls' := [vR 2, vI a1, vI a2, vI a3, vU]) (st' := [vR 2]) (g' := q4.2) k130_27 rfl rfl ?_
      refine q_s (pc' := 31) (ls' := [vR 2, vI a1, vI a2, vI a3, vU]) (st' := [vI (-202), vR 2]) (g' := q4.2) k130_28 rfl rfl ?_
      refine q_callI (ls0 := [vR 2, vI (-202)]) (rest := []) (pc' := 34) rfl k130_31 rfl (hy4 rfl rfl rfl rfl) rfl rfl hq_94 rfl (fun q6 => ?_)
      exact q_e k130_34 rfl rfl rfl
    · refine q_s (pc' := 19) (ls' := [vR 2, vI a1, vI a2, vI a3, vU]) (st' := [vI a3]) (g' := q4.2) k130_18 rfl rfl ?_
      refine q_s (pc' := 21) (ls' := [vR 2, vI a1, vI a2, vI a3, vU]) (st' := [vI 17, vI a3]) (g' := q4.2) k130_19 rfl rfl ?_
      refine q_callI (ls0 := [vI a3, vI 17]) (rest := []) (pc' := 24) rfl k130_21 rfl (hy4 rfl rfl rfl rfl) rfl rfl hq_13 rfl (fun q7 => ?_)
      refine q_if (P := q7.1 ≠ 0) (t := 35) (pc' := 27) k130_24 Iff.rfl rfl rfl (fun h8 => ?_) (fun h8 => ?_)
      · refine q_s (pc' := 36) (ls' := [vR 2, vI a1, vI a2, vI a3, vU]) (st' := [vR 2]) (g' := q7.2) k130_35 rfl rfl ?_
        refine q_getM (w := 0) (c := 3) (pc' := 39) rfl k130_36 rfl rfl rfl rfl rfl (fun h9 => ?_)
        refine q_callV (ls0 := [vR (q7.2 2 0)]) (rest := []) (pc' := 42) rfl k130_39 rfl (hy4 rfl rfl (rcv0 rfl h9) rfl) rfl rfl hq_12 rfl (fun q10 => ?_)
        refine q_s (pc' := 43) (ls' := [vR 2, vI a1, vI a2, vI a3, vU]) (st' := [vR 2]) (g' := q10) k130_42 rfl rfl ?_
        refine q_getF (r := 135) (pc' := 46) k130_43 rfl rfl rfl rfl ?_
        refine q_s (pc' := 47) (ls' := [vR 2, vI a1, vI a2, vI a3, vU]) (st' := [vI a1, vR 135]) (g' := q10) k130_46 rfl rfl ?_
        refine q_callV (ls0 := [vR 135, vI a1]) (rest := []) (pc' := 50) rfl k130_47 rfl (hy4 rfl rfl rfl rfl) rfl rfl hq_7 rfl (fun q11 => ?_)
        refine q_s (pc' := 51) (ls' := [vR 2, vI a1, vI a2, vI a3, vU]) (st' := [vI 0]) (g' := q11) k130_50 rfl rfl ?_
        refine q_s (pc' := 53) (ls' := [vR 2, vI a1, vI a2, vI a3, vI 0]) (st' := []) (g' := q11) k130_51 rfl rfl ?_
        rfl
      · refine q_s (pc' := 28) (ls' := [vR 2, vI a1, vI a2, vI a3, vU]) (st' := [vR 2]) (g' := q7.2) k130_27 rfl rfl ?_
        refine q_s (pc' := 31) (ls' := [vR 2, vI a1, vI a2, vI a3, vU]) (st' := [vI (-202), vR 2]) (g' := q7.2) k130_28 rfl rfl ?_
        refine q_callI (ls0 := [vR 2, vI (-202)]) (rest := []) (pc' := 34) rfl k130_31 rfl (hy4 rfl rfl rfl rfl) rfl rfl hq_94 rfl (fun q12 => ?_)
        exact q_e k130_34 rfl rfl rfl
set_option maxHeartbeats 4000000 in
theorem jX_draw_53_eq (L : Nat) (l1 : Int) (l2 : Int) (l3 : Int) (l4 : Int) (g : AMem) : jX_draw_53 L l1 l2 l3 l4 g = if 8 ≤ l4 then (jX_draw_74 L l1 l2 l3 0 g) else ((jX_drawBlock L l2 g).bind (fun q14 => jX_draw_53 L l1 l2 l3 (iw (l4 + 1)) q14)) := by
  unfold jX_draw_53
  refine q_s (pc' := 55) (ls' := [vR 2, vI l1, vI l2, vI l3, vI l4]) (st' := [vI l4]) (g' := g) k130_53 rfl rfl ?_
  refine q_s (pc' := 57) (ls' := [vR 2, vI l1, vI l2, vI l3, vI l4]) (st' := [vI 8, vI l4]) (g' := g) k130_55 rfl rfl ?_
  refine q_ic (P := 8 ≤ l4) (t := 71) (pc' := 60) k130_57 Iff.rfl rfl rfl (fun h13 => ?_) (fun h13 => ?_)
  · refine q_s (pc' := 72) (ls' := [vR 2, vI l1, vI l2, vI l3, vI l4]) (st' := [vI 0]) (g' := g) k130_71 rfl rfl ?_
    refine q_s (pc' := 74) (ls' := [vR 2, vI l1, vI l2, vI l3, vI 0]) (st' := []) (g' := g) k130_72 rfl rfl ?_
    rfl
  · refine q_s (pc' := 61) (ls' := [vR 2, vI l1, vI l2, vI l3, vI l4]) (st' := [vR 2]) (g' := g) k130_60 rfl rfl ?_
    refine q_s (pc' := 62) (ls' := [vR 2, vI l1, vI l2, vI l3, vI l4]) (st' := [vI l2, vR 2]) (g' := g) k130_61 rfl rfl ?_
    refine q_callV (ls0 := [vR 2, vI l2, vU, vU, vU]) (rest := []) (pc' := 65) rfl k130_62 rfl (hy4 rfl rfl rfl rfl) rfl rfl hq_128 rfl (fun q14 => ?_)
    refine q_s (pc' := 68) (ls' := [vR 2, vI l1, vI l2, vI l3, vI (iw (l4 + 1))]) (st' := []) (g' := q14) k130_65 rfl rfl ?_
    refine q_s (pc' := 53) (ls' := [vR 2, vI l1, vI l2, vI l3, vI (iw (l4 + 1))]) (st' := []) (g' := q14) k130_68 rfl rfl ?_
    rfl
set_option maxHeartbeats 4000000 in
theorem jX_draw_74_eq (L : Nat) (l1 : Int) (l2 : Int) (l3 : Int) (l4 : Int) (g : AMem) : jX_draw_74 L l1 l2 l3 l4 g = if l3 ≤ l4 then (some (l3, g)) else ((jX_drawEdge L g).bind (fun q16 => jX_draw_74 L l1 l2 l3 (iw (l4 + 1)) q16)) := by
  unfold jX_draw_74
  refine q_s (pc' := 76) (ls' := [vR 2, vI l1, vI l2, vI l3, vI l4]) (st' := [vI l4]) (g' := g) k130_74 rfl rfl ?_
  refine q_s (pc' := 77) (ls' := [vR 2, vI l1, vI l2, vI l3, vI l4]) (st' := [vI l3, vI l4]) (g' := g) k130_76 rfl rfl ?_
  refine q_ic (P := l3 ≤ l4) (t := 90) (pc' := 80) k130_77 Iff.rfl rfl rfl (fun h15 => ?_) (fun h15 => ?_)
  · refine q_s (pc' := 91) (ls' := [vR 2, vI l1, vI l2, vI l3, vI l4]) (st' := [vI l3]) (g' := g) k130_90 rfl rfl ?_
    exact q_e k130_91 rfl rfl rfl
  · refine q_s (pc' := 81) (ls' := [vR 2, vI l1, vI l2, vI l3, vI l4]) (st' := [vR 2]) (g' := g) k130_80 rfl rfl ?_
    refine q_callV (ls0 := [vR 2, vU, vU, vU, vU, vU, vU]) (rest := []) (pc' := 84) rfl k130_81 rfl (hy4 rfl rfl rfl rfl) rfl rfl hq_129 rfl (fun q16 => ?_)
    refine q_s (pc' := 87) (ls' := [vR 2, vI l1, vI l2, vI l3, vI (iw (l4 + 1))]) (st' := []) (g' := q16) k130_84 rfl rfl ?_
    refine q_s (pc' := 74) (ls' := [vR 2, vI l1, vI l2, vI l3, vI (iw (l4 + 1))]) (st' := []) (g' := q16) k130_87 rfl rfl ?_
    rfl
set_option maxHeartbeats 4000000 in
theorem jX_standing_eq (L : Nat) (a1 : Int) (g : AMem) : jX_standing L a1 g = if a1 = 0 then (some (g 2 11, g)) else (if a1 = 1 then (some (g 2 12, g)) else (if a1 = 2 then (some (g 2 13, g)) else (if a1 = 3 then (some (g 113 1, g)) else (if a1 = 4 then (if kin (SH L) (g 2 0) = 3 then (some (g (g 2 0) 2, g)) else none) else (if a1 = 5 then (if kin (SH L) (g 2 0) = 3 then (some (g (g 2 0) 3, g)) else none) else (some (g 2 10, g))))))) := by
  unfold jX_standing
  refine q_s (pc' := 1) (ls' := [vR 2, vI a1]) (st' := [vI a1]) (g' := g) k131_0 rfl rfl ?_
  refine q_by (P := a1 = 0) (fun h1 => ?_) (fun h1 => ?_)
  · refine q_s (pc' := 40) (ls' := [vR 2, vI a1]) (st' := []) (g' := g) k131_1 rfl (e_top h1 rfl) ?_
    refine q_s (pc' := 41) (ls' := [vR 2, vI a1]) (st' := [vR 2]) (g' := g) k131_40 rfl rfl ?_
    refine q_getI (w := 11) (pc' := 44) k131_41 rfl rfl rfl rfl ?_
    exact q_e k131_44 rfl rfl rfl
  · skip
    refine q_by (P := a1 = 1) (fun h2 => ?_) (fun h2 => ?_)
    · refine q_s (pc' := 45) (ls' := [vR 2, vI a1]) (st' := []) (g' := g) k131_1 rfl (e_top h2 rfl) ?_
      refine q_s (pc' := 46) (ls' := [vR 2, vI a1]) (st' := [vR 2]) (g' := g) k131_45 rfl rfl ?_
      refine q_getI (w := 12) (pc' := 49) k131_46 rfl rfl rfl rfl ?_
      exact q_e k131_49 rfl rfl rfl
    · skip
      refine q_by (P := a1 = 2) (fun h3 => ?_) (fun h3 => ?_)
      · refine q_s (pc' := 50) (ls' := [vR 2, vI a1]) (st' := []) (g' := g) k131_1 rfl (e_top h3 rfl) ?_
        refine q_s (pc' := 51) (ls' := [vR 2, vI a1]) (st' := [vR 2]) (g' := g) k131_50 rfl rfl ?_
        refine q_getI (w := 13) (pc' := 54) k131_51 rfl rfl rfl rfl ?_
        exact q_e k131_54 rfl rfl rfl
      · skip
        refine q_by (P := a1 = 3) (fun h4 => ?_) (fun h4 => ?_)
        · refine q_s (pc' := 55) (ls' := [vR 2, vI a1]) (st' := []) (g' := g) k131_1 rfl (e_top h4 rfl) ?_
          refine q_s (pc' := 56) (ls' := [vR 2, vI a1]) (st' := [vR 2]) (g' := g) k131_55 rfl rfl ?_
          refine q_getF (r := 113) (pc' := 59) k131_56 rfl rfl rfl rfl ?_
          refine q_getI (w := 1) (pc' := 62) k131_59 rfl rfl rfl rfl ?_
          exact q_e k131_62 rfl rfl rfl
        · skip
          refine q_by (P := a1 = 4) (fun h5 => ?_) (fun h5 => ?_)
          · refine q_s (pc' := 63) (ls' := [vR 2, vI a1]) (st' := []) (g' := g) k131_1 rfl (e_top h5 rfl) ?_
            refine q_s (pc' := 64) (ls' := [vR 2, vI a1]) (st' := [vR 2]) (g' := g) k131_63 rfl rfl ?_
            refine q_getM (w := 0) (c := 3) (pc' := 67) rfl k131_64 rfl rfl rfl rfl rfl (fun h6 => ?_)
            refine q_getI (w := 2) (pc' := 70) k131_67 h6 rfl rfl rfl ?_
            exact q_e k131_70 rfl rfl rfl
          · skip
            refine q_by (P := a1 = 5) (fun h7 => ?_) (fun h7 => ?_)
            · refine q_s (pc' := 71) (ls' := [vR 2, vI a1]) (st' := []) (g' := g) k131_1 rfl (e_top h7 rfl) ?_
              refine q_s (pc' := 72) (ls' := [vR 2, vI a1]) (st' := [vR 2]) (g' := g) k131_71 rfl rfl ?_
              refine q_getM (w := 0) (c := 3) (pc' := 75) rfl k131_72 rfl rfl rfl rfl rfl (fun h8 => ?_)
              refine q_getI (w := 3) (pc' := 78) k131_75 h8 rfl rfl rfl ?_
              exact q_e k131_78 rfl rfl rfl
            · skip
              refine q_s (pc' := 79) (ls' := [vR 2, vI a1]) (st' := []) (g' := g) k131_1 rfl (e_tsw (by omega) (by decide)) ?_
              refine q_s (pc' := 80) (ls' := [vR 2, vI a1]) (st' := [vR 2]) (g' := g) k131_79 rfl rfl ?_
              refine q_getI (w := 10) (pc' := 83) k131_80 rfl rfl rfl rfl ?_
              exact q_e k131_83 rfl rfl rfl
set_option maxHeartbeats 4000000 in
theorem jX_told_eq (L : Nat) (a1 : Int) (g : AMem) : jX_told L a1 g = (jX_isBelow L a1 7 g).bind (fun q1 => if q1.1 ≠ 0 then ((jX_standing L a1 q1.2).bind (fun q3 => some (q3.1, q3.2))) else ((jX_refuse L (-202) q1.2).bind (fun q4 => some (q4.1, q4.2)))) := by
  unfold jX_told
  refine q_s (pc' := 1) (ls' := [vR 2, vI a1]) (st' := [vI a1]) (g' := g) k132_0 rfl rfl ?_
  refine q_s (pc' := 3) (ls' := [vR 2, vI a1]) (st' := [vI 7, vI a1]) (g' := g) k132_1 rfl rfl ?_
  refine q_callI (ls0 := [vI a1, vI 7]) (rest := []) (pc' := 6) rfl k132_3 rfl (hy4 rfl rfl rfl rfl) rfl rfl hq_13 rfl (fun q1 => ?_)
  refine q_if (P := q1.1 ≠ 0) (t := 17) (pc' := 9) k132_6 Iff.rfl rfl rfl (fun h2 => ?_) (fun h2 => ?_)
  · refine q_s (pc' := 18) (ls' := [vR 2, vI a1]) (st' := [vR 2]) (g' := q1.2) k132_17 rfl rfl ?_
    refine q_s (pc' := 19) (ls' := [vR 2, vI a1]) (st' := [vI a1, vR 2]) (g' := q1.2) k132_18 rfl rfl ?_
    refine q_callI (ls0 := [vR 2, vI a1]) (rest := []) (pc' := 22) rfl k132_19 rfl (hy4 rfl rfl rfl rfl) rfl rfl hq_131 rfl (fun q3 => ?_)
    exact q_e k132_22 rfl rfl rfl
  · refine q_s (pc' := 10) (ls' := [vR 2, vI a1]) (st' := [vR 2]) (g' := q1.2) k132_9 rfl rfl ?_
    refine q_s (pc' := 13) (ls' := [vR 2, vI a1]) (st' := [vI (-202), vR 2]) (g' := q1.2) k132_10 rfl rfl ?_
    refine q_callI (ls0 := [vR 2, vI (-202)]) (rest := []) (pc' := 16) rfl k132_13 rfl (hy4 rfl rfl rfl rfl) rfl rfl hq_94 rfl (fun q4 => ?_)
    exact q_e k132_16 rfl rfl rfl
set_option maxHeartbeats 4000000 in
theorem jX_digest_eq (L : Nat) (g : AMem) : jX_digest L g = jX_digest_6 L 1913 0 g := by
  unfold jX_digest
  refine q_s (pc' := 3) (ls' := [vR 2, vU, vU, vU]) (st' := [vL 1913]) (g' := g) k133_0 rfl rfl ?_
  refine q_s (pc' := 4) (ls' := [vR 2, vL 1913, vU, vU]) (st' := []) (g' := g) k133_3 rfl rfl ?_
  refine q_s (pc' := 5) (ls' := [vR 2, vL 1913, vU, vU]) (st' := [vI 0]) (g' := g) k133_4 rfl rfl ?_
  refine q_s (pc' := 6) (ls' := [vR 2, vL 1913, vU, vI 0]) (st' := []) (g' := g) k133_5 rfl rfl ?_
  rfl
set_option maxHeartbeats 4000000 in
theorem jX_digest_6_eq (L : Nat) (l1 : Int) (l3 : Int) (g : AMem) : jX_digest_6 L l1 l3 g = if 7 ≤ l3 then (jX_digest_33 L l1 0 g) else ((jX_standing L l3 g).bind (fun q2 => jX_digest_6 L (lw ((lw (31 * l1)) + q2.1)) (iw (l3 + 1)) q2.2)) := by
  unfold jX_digest_6
  refine q_s (pc' := 7) (ls' := [vR 2, vL l1, vU, vI l3]) (st' := [vI l3]) (g' := g) k133_6 rfl rfl ?_
  refine q_s (pc' := 9) (ls' := [vR 2, vL l1, vU, vI l3]) (st' := [vI 7, vI l3]) (g' := g) k133_7 rfl rfl ?_
  refine q_ic (P := 7 ≤ l3) (t := 31) (pc' := 12) k133_9 Iff.rfl rfl rfl (fun h1 => ?_) (fun h1 => ?_)
  · refine q_s (pc' := 32) (ls' := [vR 2, vL l1, vU, vI l3]) (st' := [vI 0]) (g' := g) k133_31 rfl rfl ?_
    refine q_s (pc' := 33) (ls' := [vR 2, vL l1, vU, vI 0]) (st' := []) (g' := g) k133_32 rfl rfl ?_
    rfl
  · refine q_s (pc' := 15) (ls' := [vR 2, vL l1, vU, vI l3]) (st' := [vL 31]) (g' := g) k133_12 rfl rfl ?_
    refine q_s (pc' := 16) (ls' := [vR 2, vL l1, vU, vI l3]) (st' := [vL l1, vL 31]) (g' := g) k133_15 rfl rfl ?_
    refine q_s (pc' := 17) (ls' := [vR 2, vL l1, vU, vI l3]) (st' := [vL (lw (31 * l1))]) (g' := g) k133_16 rfl rfl ?_
    refine q_s (pc' := 18) (ls' := [vR 2, vL l1, vU, vI l3]) (st' := [vR 2, vL (lw (31 * l1))]) (g' := g) k133_17 rfl rfl ?_
    refine q_s (pc' := 19) (ls' := [vR 2, vL l1, vU, vI l3]) (st' := [vI l3, vR 2, vL (lw (31 * l1))]) (g' := g) k133_18 rfl rfl ?_
    refine q_callI (ls0 := [vR 2, vI l3]) (rest := [vL (lw (31 * l1))]) (pc' := 22) rfl k133_19 rfl (hy4 rfl rfl rfl rfl) rfl rfl hq_131 rfl (fun q2 => ?_)
    refine q_s (pc' := 23) (ls' := [vR 2, vL l1, vU, vI l3]) (st' := [vL q2.1, vL (lw (31 * l1))]) (g' := q2.2) k133_22 rfl rfl ?_
    refine q_s (pc' := 24) (ls' := [vR 2, vL l1, vU, vI l3]) (st' := [vL (lw ((lw (31 * l1)) + q2.1))]) (g' := q2.2) k133_23 rfl rfl ?_
    refine q_s (pc' := 25) (ls' := [vR 2, vL (lw ((lw (31 * l1)) + q2.1)), vU, vI l3]) (st' := []) (g' := q2.2) k133_24 rfl rfl ?_
    refine q_s (pc' := 28) (ls' := [vR 2, vL (lw ((lw (31 * l1)) + q2.1)), vU, vI (iw (l3 + 1))]) (st' := []) (g' := q2.2) k133_25 rfl rfl ?_
    refine q_s (pc' := 6) (ls' := [vR 2, vL (lw ((lw (31 * l1)) + q2.1)), vU, vI (iw (l3 + 1))]) (st' := []) (g' := q2.2) k133_28 rfl rfl ?_
    rfl
set_option maxHeartbeats 4000000 in
theorem jX_digest_33_eq (L : Nat) (l1 : Int) (l3 : Int) (g : AMem) : jX_digest_33 L l1 l3 g = if kin (SH L) (g 2 0) = 3 then (if g (g 2 0) 2 ≤ l3 then (jX_digest_66 L l1 0 g) else (if kin (SH L) (g 2 0) = 3 then (if 0 ≤ l3 ∧ l3 < 10 then ((jBk_mix L (g 2 0 + 2 + 2 * l3) l1 g).bind (fun q7 => jX_digest_33 L q7.1 (iw (l3 + 1)) q7.2)) else none) else none)) else none := by
  unfold jX_digest_33
  refine q_s (pc' := 34) (ls' := [vR 2, vL l1, vU, vI l3]) (st' := [vI l3]) (g' := g) k133_33 rfl rfl ?_
  refine q_s (pc' := 35) (ls' := [vR 2, vL l1, vU, vI l3]) (st' := [vR 2, vI l3]) (g' := g) k133_34 rfl rfl ?_
  refine q_getM (w := 0) (c := 3) (pc' := 38) rfl k133_35 rfl rfl rfl rfl rfl (fun h3 => ?_)
  refine q_getI (w := 2) (pc' := 41) k133_38 h3 rfl rfl rfl ?_
  refine q_ic (P := g (g 2 0) 2 ≤ l3) (t := 64) (pc' := 44) k133_41 Iff.rfl rfl rfl (fun h4 => ?_) (fun h4 => ?_)
  · refine q_s (pc' := 65) (ls' := [vR 2, vL l1, vU, vI l3]) (st' := [vI 0]) (g' := g) k133_64 rfl rfl ?_
    refine q_s (pc' := 66) (ls' := [vR 2, vL l1, vU, vI 0]) (st' := []) (g' := g) k133_65 rfl rfl ?_
    rfl
  · refine q_s (pc' := 45) (ls' := [vR 2, vL l1, vU, vI l3]) (st' := [vR 2]) (g' := g) k133_44 rfl rfl ?_
    refine q_getM (w := 0) (c := 3) (pc' := 48) rfl k133_45 rfl rfl rfl rfl rfl (fun h5 => ?_)
    refine q_getF (r := g 2 0 + 1) (pc' := 51) k133_48 h5 rfl (kG_f h5).1 rfl ?_
    refine q_s (pc' := 52) (ls' := [vR 2, vL l1, vU, vI l3]) (st' := [vI l3, vR (g 2 0 + 1)]) (g' := g) k133_51 rfl rfl ?_
    refine q_aald (n := 10) (pc' := 53) rfl k133_52 (kG_f h5).2.2.1 rfl (g 2 0 + 2 + 2 * l3) (fun h => (kG_b h5 h.1 h.2).1) (fun h6 => ?_)
    refine q_s (pc' := 54) (ls' := [vR 2, vL l1, vU, vI l3]) (st' := [vL l1, vR (g 2 0 + 2 + 2 * l3)]) (g' := g) k133_53 rfl rfl ?_
    refine q_callL (ls0 := [vR (g 2 0 + 2 + 2 * l3), vL l1, vU, vU, vU, vU]) (rest := []) (pc' := 57) rfl k133_54 rfl (hy4 rfl rfl (rcv0 rfl (kG_b h5 h6.1 h6.2).2) rfl) rfl rfl hq_5 rfl (fun q7 => ?_)
    refine q_s (pc' := 58) (ls' := [vR 2, vL q7.1, vU, vI l3]) (st' := []) (g' := q7.2) k133_57 rfl rfl ?_
    refine q_s (pc' := 61) (ls' := [vR 2, vL q7.1, vU, vI (iw (l3 + 1))]) (st' := []) (g' := q7.2) k133_58 rfl rfl ?_
    refine q_s (pc' := 33) (ls' := [vR 2, vL q7.1, vU, vI (iw (l3 + 1))]) (st' := []) (g' := q7.2) k133_61 rfl rfl ?_
    rfl
set_option maxHeartbeats 4000000 in
theorem jX_digest_66_eq (L : Nat) (l1 : Int) (l3 : Int) (g : AMem) : jX_digest_66 L l1 l3 g = if kin (SH L) (g 2 0) = 3 then (if g (g 2 0) 3 ≤ l3 then (some (l1, g)) else (if kin (SH L) (g 2 0) = 3 then (if 0 ≤ l3 ∧ l3 < 16 then (if kin (SH L) (g 2 0) = 3 then (if 0 ≤ l3 ∧ l3 < 16 then (if 0 ≤ g (g 2 0 + 23 + 2 * l3) 2 ∧ g (g 2 0 + 23 + 2 * l3) 2 < 10 then ((jEd_mix L (g 2 0 + 23 + 2 * l3) l1 (g (g 2 0 + 2 + 2 * (g (g 2 0 + 23 + 2 * l3) 2)) 1) g).bind (fun q16 => jX_digest_66 L q16.1 (iw (l3 + 1)) q16.2)) else none) else none) else none) else none) else none)) else none := by
  unfold jX_digest_66
  refine q_s (pc' := 67) (ls' := [vR 2, vL l1, vU, vI l3]) (st' := [vI l3]) (g' := g) k133_66 rfl rfl ?_
  refine q_s (pc' := 68) (ls' := [vR 2, vL l1, vU, vI l3]) (st' := [vR 2, vI l3]) (g' := g) k133_67 rfl rfl ?_
  refine q_getM (w := 0) (c := 3) (pc' := 71) rfl k133_68 rfl rfl rfl rfl rfl (fun h8 => ?_)
  refine q_getI (w := 3) (pc' := 74) k133_71 h8 rfl rfl rfl ?_
  refine q_ic (P := g (g 2 0) 3 ≤ l3) (t := 108) (pc' := 77) k133_74 Iff.rfl rfl rfl (fun h9 => ?_) (fun h9 => ?_)
  · refine q_s (pc' := 109) (ls' := [vR 2, vL l1, vU, vI l3]) (st' := [vL l1]) (g' := g) k133_108 rfl rfl ?_
    exact q_e k133_109 rfl rfl rfl
  · refine q_s (pc' := 78) (ls' := [vR 2, vL l1, vU, vI l3]) (st' := [vR 2]) (g' := g) k133_77 rfl rfl ?_
    refine q_getM (w := 0) (c := 3) (pc' := 81) rfl k133_78 rfl rfl rfl rfl rfl (fun h10 => ?_)
    refine q_getF (r := g 2 0 + 22) (pc' := 84) k133_81 h10 rfl (kG_f h10).2.1 rfl ?_
    refine q_s (pc' := 85) (ls' := [vR 2, vL l1, vU, vI l3]) (st' := [vI l3, vR (g 2 0 + 22)]) (g' := g) k133_84 rfl rfl ?_
    refine q_aald (n := 16) (pc' := 86) rfl k133_85 (kG_f h10).2.2.2 rfl (g 2 0 + 23 + 2 * l3) (fun h => (kG_e h10 h.1 h.2).1) (fun h11 => ?_)
    refine q_s (pc' := 87) (ls' := [vR 2, vL l1, vU, vI l3]) (st' := [vL l1, vR (g 2 0 + 23 + 2 * l3)]) (g' := g) k133_86 rfl rfl ?_
    refine q_s (pc' := 88) (ls' := [vR 2, vL l1, vU, vI l3]) (st' := [vR 2, vL l1, vR (g 2 0 + 23 + 2 * l3)]) (g' := g) k133_87 rfl rfl ?_
    refine q_getM (w := 0) (c := 3) (pc' := 91) rfl k133_88 rfl rfl rfl rfl rfl (fun h12 => ?_)
    refine q_s (pc' := 92) (ls' := [vR 2, vL l1, vU, vI l3]) (st' := [vI l3, vR (g 2 0), vL l1, vR (g 2 0 + 23 + 2 * l3)]) (g' := g) k133_91 rfl rfl ?_
    refine q_goal (t := g 2 0) (e := l3) (pc' := 95) rfl k133_92 h12 rfl rfl (fun h14 h15 => ?_)
    refine q_getI (w := 1) (pc' := 98) k133_95 (kG_b h12 h15.1 h15.2).2 rfl rfl rfl ?_
    refine q_callL (ls0 := [vR (g 2 0 + 23 + 2 * l3), vL l1, vU, vI (g (g 2 0 + 2 + 2 * (g (g 2 0 + 23 + 2 * l3) 2)) 1), vU, vU, vU]) (rest := []) (pc' := 101) rfl k133_98 rfl (hy4 rfl rfl (rcv0 rfl (kG_e h10 h11.1 h11.2).2) rfl) rfl rfl hq_10 rfl (fun q16 => ?_)
    refine q_s (pc' := 102) (ls' := [vR 2, vL q16.1, vU, vI l3]) (st' := []) (g' := q16.2) k133_101 rfl rfl ?_
    refine q_s (pc' := 105) (ls' := [vR 2, vL q16.1, vU, vI (iw (l3 + 1))]) (st' := []) (g' := q16.2) k133_102 rfl rfl ?_
    refine q_s (pc' := 66) (ls' := [vR 2, vL q16.1, vU, vI (iw (l3 + 1))]) (st' := []) (g' := q16.2) k133_105 rfl rfl ?_
    rfl
set_option maxHeartbeats 4000000 in
theorem jM_bad_eq (L : Nat) (g : AMem) : jM_bad L g = if 0 ≤ (0 : Int) ∧ (0 : Int) < 3 then (if 0 ≤ (0 : Int) ∧ (0 : Int) < 3 then (some ((-202), up g 138 0 (iw ((g 138 0) + 1)))) else none) else none := by
  unfold jM_bad
  refine q_s (pc' := 1) (ls' := [vR 137]) (st' := [vR 137]) (g' := g) k135_0 rfl rfl ?_
  refine q_getF (r := 138) (pc' := 4) k135_1 rfl rfl rfl rfl ?_
  refine q_s (pc' := 5) (ls' := [vR 137]) (st' := [vI 0, vR 138]) (g' := g) k135_4 rfl rfl ?_
  refine q_s (pc' := 6) (ls' := [vR 137]) (st' := [vI 0, vR 138, vI 0, vR 138]) (g' := g) k135_5 rfl rfl ?_
  refine q_iald (n := 3) (pc' := 7) rfl k135_6 rfl rfl (fun h1 => ?_)
  refine q_s (pc' := 8) (ls' := [vR 137]) (st' := [vI 1, vI (g 138 0), vI 0, vR 138]) (g' := g) k135_7 rfl rfl ?_
  refine q_s (pc' := 9) (ls' := [vR 137]) (st' := [vI (iw ((g 138 0) + 1)), vI 0, vR 138]) (g' := g) k135_8 rfl rfl ?_
  refine q_iast (n := 3) (pc' := 10) rfl k135_9 rfl (by decide) rfl (fun h2 => ?_)
  refine q_s (pc' := 13) (ls' := [vR 137]) (st' := [vI (-202)]) (g' := up g 138 0 (iw ((g 138 0) + 1))) k135_10 rfl rfl ?_
  exact q_e k135_13 rfl rfl rfl
set_option maxHeartbeats 4000000 in
theorem jM_no_eq (L : Nat) (g : AMem) : jM_no L g = if 0 ≤ (1 : Int) ∧ (1 : Int) < 3 then (if 0 ≤ (1 : Int) ∧ (1 : Int) < 3 then (some ((-203), up g 138 1 (iw ((g 138 1) + 1)))) else none) else none := by
  unfold jM_no
  refine q_s (pc' := 1) (ls' := [vR 137]) (st' := [vR 137]) (g' := g) k136_0 rfl rfl ?_
  refine q_getF (r := 138) (pc' := 4) k136_1 rfl rfl rfl rfl ?_
  refine q_s (pc' := 5) (ls' := [vR 137]) (st' := [vI 1, vR 138]) (g' := g) k136_4 rfl rfl ?_
  refine q_s (pc' := 6) (ls' := [vR 137]) (st' := [vI 1, vR 138, vI 1, vR 138]) (g' := g) k136_5 rfl rfl ?_
  refine q_iald (n := 3) (pc' := 7) rfl k136_6 rfl rfl (fun h1 => ?_)
  refine q_s (pc' := 8) (ls' := [vR 137]) (st' := [vI 1, vI (g 138 1), vI 1, vR 138]) (g' := g) k136_7 rfl rfl ?_
  refine q_s (pc' := 9) (ls' := [vR 137]) (st' := [vI (iw ((g 138 1) + 1)), vI 1, vR 138]) (g' := g) k136_8 rfl rfl ?_
  refine q_iast (n := 3) (pc' := 10) rfl k136_9 rfl (by decide) rfl (fun h2 => ?_)
  refine q_s (pc' := 13) (ls' := [vR 137]) (st' := [vI (-203)]) (g' := up g 138 1 (iw ((g 138 1) + 1))) k136_10 rfl rfl ?_
  exact q_e k136_13 rfl rfl rfl
set_option maxHeartbeats 4000000 in
theorem jM_full_eq (L : Nat) (g : AMem) : jM_full L g = if 0 ≤ (2 : Int) ∧ (2 : Int) < 3 then (if 0 ≤ (2 : Int) ∧ (2 : Int) < 3 then (some ((-204), up g 138 2 (iw ((g 138 2) + 1)))) else none) else none := by
  unfold jM_full
  refine q_s (pc' := 1) (ls' := [vR 137]) (st' := [vR 137]) (g' := g) k137_0 rfl rfl ?_
  refine q_getF (r := 138) (pc' := 4) k137_1 rfl rfl rfl rfl ?_
  refine q_s (pc' := 5) (ls' := [vR 137]) (st' := [vI 2, vR 138]) (g' := g) k137_4 rfl rfl ?_
  refine q_s (pc' := 6) (ls' := [vR 137]) (st' := [vI 2, vR 138, vI 2, vR 138]) (g' := g) k137_5 rfl rfl ?_
  refine q_iald (n := 3) (pc' := 7) rfl k137_6 rfl rfl (fun h1 => ?_)
  refine q_s (pc' := 8) (ls' := [vR 137]) (st' := [vI 1, vI (g 138 2), vI 2, vR 138]) (g' := g) k137_7 rfl rfl ?_
  refine q_s (pc' := 9) (ls' := [vR 137]) (st' := [vI (iw ((g 138 2) + 1)), vI 2, vR 138]) (g' := g) k137_8 rfl rfl ?_
  refine q_iast (n := 3) (pc' := 10) rfl k137_9 rfl (by decide) rfl (fun h2 => ?_)
  refine q_s (pc' := 13) (ls' := [vR 137]) (st' := [vI (-204)]) (g' := up g 138 2 (iw ((g 138 2) + 1))) k137_10 rfl rfl ?_
  exact q_e k137_13 rfl rfl rfl
set_option maxHeartbeats 4000000 in
theorem jM_in_eq (L : Nat) (a0 : Int) (a1 : Int) (a2 : Int) (g : AMem) : jM_in L a0 a1 a2 g = if a0 < a1 then (some (0, g)) else (if a2 < a0 then (some (0, g)) else (some (1, g))) := by
  unfold jM_in
  refine q_s (pc' := 1) (ls' := [vI a0, vI a1, vI a2]) (st' := [vI a0]) (g' := g) k138_0 rfl rfl ?_
  refine q_s (pc' := 2) (ls' := [vI a0, vI a1, vI a2]) (st' := [vI a1, vI a0]) (g' := g) k138_1 rfl rfl ?_
  refine q_ic (P := a0 < a1) (t := 14) (pc' := 5) k138_2 Iff.rfl rfl rfl (fun h1 => ?_) (fun h1 => ?_)
  · refine q_s (pc' := 15) (ls' := [vI a0, vI a1, vI a2]) (st' := [vI 0]) (g' := g) k138_14 rfl rfl ?_
    exact q_e k138_15 rfl rfl rfl
  · refine q_s (pc' := 6) (ls' := [vI a0, vI a1, vI a2]) (st' := [vI a0]) (g' := g) k138_5 rfl rfl ?_
    refine q_s (pc' := 7) (ls' := [vI a0, vI a1, vI a2]) (st' := [vI a2, vI a0]) (g' := g) k138_6 rfl rfl ?_
    refine q_ic (P := a2 < a0) (t := 14) (pc' := 10) k138_7 Iff.rfl rfl rfl (fun h2 => ?_) (fun h2 => ?_)
    · refine q_s (pc' := 15) (ls' := [vI a0, vI a1, vI a2]) (st' := [vI 0]) (g' := g) k138_14 rfl rfl ?_
      exact q_e k138_15 rfl rfl rfl
    · refine q_s (pc' := 11) (ls' := [vI a0, vI a1, vI a2]) (st' := [vI 1]) (g' := g) k138_10 rfl rfl ?_
      refine q_s (pc' := 15) (ls' := [vI a0, vI a1, vI a2]) (st' := [vI 1]) (g' := g) k138_11 rfl rfl ?_
      exact q_e k138_15 rfl rfl rfl
set_option maxHeartbeats 4000000 in
theorem jM_widthOf_eq (L : Nat) (a0 : Int) (g : AMem) : jM_widthOf L a0 g = some (iw (a0 - a0.tdiv 10 * 10), g) := by
  unfold jM_widthOf
  refine q_s (pc' := 1) (ls' := [vI a0]) (st' := [vI a0]) (g' := g) k139_0 rfl rfl ?_
  refine q_s (pc' := 3) (ls' := [vI a0]) (st' := [vI 10, vI a0]) (g' := g) k139_1 rfl rfl ?_
  refine q_s (pc' := 4) (ls' := [vI a0]) (st' := [vI (iw (a0 - a0.tdiv 10 * 10))]) (g' := g) k139_3 rfl rfl ?_
  exact q_e k139_4 rfl rfl rfl
set_option maxHeartbeats 4000000 in
theorem jM_byteOf_eq (L : Nat) (a0 : Int) (g : AMem) : jM_byteOf L a0 g = some (iw (a0.tdiv 10), g) := by
  unfold jM_byteOf
  refine q_s (pc' := 1) (ls' := [vI a0]) (st' := [vI a0]) (g' := g) k140_0 rfl rfl ?_
  refine q_s (pc' := 3) (ls' := [vI a0]) (st' := [vI 10, vI a0]) (g' := g) k140_1 rfl rfl ?_
  refine q_s (pc' := 4) (ls' := [vI a0]) (st' := [vI (iw (a0.tdiv 10))]) (g' := g) k140_3 rfl rfl ?_
  exact q_e k140_4 rfl rfl rfl
set_option maxHeartbeats 4000000 in
theorem jM_isWidth_eq (L : Nat) (a0 : Int) (g : AMem) : jM_isWidth L a0 g = if a0 = 1 then (some (1, g)) else (if a0 = 2 then (some (1, g)) else (if a0 ≠ 4 then (some (0, g)) else (some (1, g)))) := by
  unfold jM_isWidth
  refine q_s (pc' := 1) (ls' := [vI a0]) (st' := [vI a0]) (g' := g) k141_0 rfl rfl ?_
  refine q_s (pc' := 2) (ls' := [vI a0]) (st' := [vI 1, vI a0]) (g' := g) k141_1 rfl rfl ?_
  refine q_ic (P := a0 = 1) (t := 15) (pc' := 5) k141_2 Iff.rfl rfl rfl (fun h1 => ?_) (fun h1 => ?_)
  · refine q_s (pc' := 16) (ls' := [vI a0]) (st' := [vI 1]) (g' := g) k141_15 rfl rfl ?_
    refine q_s (pc' := 20) (ls' := [vI a0]) (st' := [vI 1]) (g' := g) k141_16 rfl rfl ?_
    exact q_e k141_20 rfl rfl rfl
  · refine q_s (pc' := 6) (ls' := [vI a0]) (st' := [vI a0]) (g' := g) k141_5 rfl rfl ?_
    refine q_s (pc' := 7) (ls' := [vI a0]) (st' := [vI 2, vI a0]) (g' := g) k141_6 rfl rfl ?_
    refine q_ic (P := a0 = 2) (t := 15) (pc' := 10) k141_7 Iff.rfl rfl rfl (fun h2 => ?_) (fun h2 => ?_)
    · refine q_s (pc' := 16) (ls' := [vI a0]) (st' := [vI 1]) (g' := g) k141_15 rfl rfl ?_
      refine q_s (pc' := 20) (ls' := [vI a0]) (st' := [vI 1]) (g' := g) k141_16 rfl rfl ?_
      exact q_e k141_20 rfl rfl rfl
    · refine q_s (pc' := 11) (ls' := [vI a0]) (st' := [vI a0]) (g' := g) k141_10 rfl rfl ?_
      refine q_s (pc' := 12) (ls' := [vI a0]) (st' := [vI 4, vI a0]) (g' := g) k141_11 rfl rfl ?_
      refine q_ic (P := a0 ≠ 4) (t := 19) (pc' := 15) k141_12 Iff.rfl rfl rfl (fun h3 => ?_) (fun h3 => ?_)
      · refine q_s (pc' := 20) (ls' := [vI a0]) (st' := [vI 0]) (g' := g) k141_19 rfl rfl ?_
        exact q_e k141_20 rfl rfl rfl
      · refine q_s (pc' := 16) (ls' := [vI a0]) (st' := [vI 1]) (g' := g) k141_15 rfl rfl ?_
        refine q_s (pc' := 20) (ls' := [vI a0]) (st' := [vI 1]) (g' := g) k141_16 rfl rfl ?_
        exact q_e k141_20 rfl rfl rfl
set_option maxHeartbeats 4000000 in
theorem jM_isRegion_eq (L : Nat) (a0 : Int) (g : AMem) : jM_isRegion L a0 g = if a0 ≤ 0 then (some (0, g)) else ((jM_widthOf L a0 g).bind (fun q2 => (jM_isWidth L q2.1 q2.2).bind (fun q3 => if q3.1 = 0 then (some (0, q3.2)) else ((jM_byteOf L a0 q3.2).bind (fun q5 => (jM_widthOf L a0 q5.2).bind (fun q6 => if q6.1 = 0 then none else if iw (q5.1 - q5.1.tdiv q6.1 * q6.1) ≠ 0 then (some (0, q6.2)) else ((jM_byteOf L a0 q6.2).bind (fun q8 => (jM_widthOf L a0 q8.2).bind (fun q9 => if 32 < iw (q8.1 + q9.1) then (some (0, q9.2)) else (some (1, q9.2))))))))))) := by
  unfold jM_isRegion
  refine q_s (pc' := 1) (ls' := [vI a0]) (st' := [vI a0]) (g' := g) k142_0 rfl rfl ?_
  refine q_if (P := a0 ≤ 0) (t := 44) (pc' := 4) k142_1 Iff.rfl rfl rfl (fun h1 => ?_) (fun h1 => ?_)
  · refine q_s (pc' := 45) (ls' := [vI a0]) (st' := [vI 0]) (g' := g) k142_44 rfl rfl ?_
    exact q_e k142_45 rfl rfl rfl
  · refine q_s (pc' := 5) (ls' := [vI a0]) (st' := [vI a0]) (g' := g) k142_4 rfl rfl ?_
    refine q_callI (ls0 := [vI a0]) (rest := []) (pc' := 8) rfl k142_5 rfl (hy4 rfl rfl rfl rfl) rfl rfl hq_139 rfl (fun q2 => ?_)
    refine q_callI (ls0 := [vI q2.1]) (rest := []) (pc' := 11) rfl k142_8 rfl (hy4 rfl rfl rfl rfl) rfl rfl hq_141 rfl (fun q3 => ?_)
    refine q_if (P := q3.1 = 0) (t := 44) (pc' := 14) k142_11 Iff.rfl rfl rfl (fun h4 => ?_) (fun h4 => ?_)
    · refine q_s (pc' := 45) (ls' := [vI a0]) (st' := [vI 0]) (g' := q3.2) k142_44 rfl rfl ?_
      exact q_e k142_45 rfl rfl rfl
    · refine q_s (pc' := 15) (ls' := [vI a0]) (st' := [vI a0]) (g' := q3.2) k142_14 rfl rfl ?_
      refine q_callI (ls0 := [vI a0]) (rest := []) (pc' := 18) rfl k142_15 rfl (hy4 rfl rfl rfl rfl) rfl rfl hq_140 rfl (fun q5 => ?_)
      refine q_s (pc' := 19) (ls' := [vI a0]) (st' := [vI a0, vI q5.1]) (g' := q5.2) k142_18 rfl rfl ?_
      refine q_callI (ls0 := [vI a0]) (rest := [vI q5.1]) (pc' := 22) rfl k142_19 rfl (hy4 rfl rfl rfl rfl) rfl rfl hq_139 rfl (fun q6 => ?_)
      refine q_irem (pc' := 23) rfl k142_22 rfl (fun _ => ?_)
      refine q_if (P := iw (q5.1 - q5.1.tdiv q6.1 * q6.1) ≠ 0) (t := 44) (pc' := 26) k142_23 Iff.rfl rfl rfl (fun h7 => ?_) (fun h7 => ?_)
      · refine q_s (pc' := 45) (ls' := [vI a0]) (st' := [vI 0]) (g' := q6.2) k142_44 rfl rfl ?_
        exact q_e k142_45 rfl rfl rfl
      · refine q_s (pc' := 27) (ls' := [vI a0]) (st' := [vI a0]) (g' := q6.2) k142_26 rfl rfl ?_
        refine q_callI (ls0 := [vI a0]) (rest := []) (pc' := 30) rfl k142_27 rfl (hy4 rfl rfl rfl rfl) rfl rfl hq_140 rfl (fun q8 => ?_)
        refine q_s (pc' := 31) (ls' := [vI a0]) (st' := [vI a0, vI q8.1]) (g' := q8.2) k142_30 rfl rfl ?_
        refine q_callI (ls0 := [vI a0]) (rest := [vI q8.1]) (pc' := 34) rfl k142_31 rfl (hy4 rfl rfl rfl rfl) rfl rfl hq_139 rfl (fun q9 => ?_)
        refine q_s (pc' := 35) (ls' := [vI a0]) (st' := [vI (iw (q8.1 + q9.1))]) (g' := q9.2) k142_34 rfl rfl ?_
        refine q_s (pc' := 37) (ls' := [vI a0]) (st' := [vI 32, vI (iw (q8.1 + q9.1))]) (g' := q9.2) k142_35 rfl rfl ?_
        refine q_ic (P := 32 < iw (q8.1 + q9.1)) (t := 44) (pc' := 40) k142_37 Iff.rfl rfl rfl (fun h10 => ?_) (fun h10 => ?_)
        · refine q_s (pc' := 45) (ls' := [vI a0]) (st' := [vI 0]) (g' := q9.2) k142_44 rfl rfl ?_
          exact q_e k142_45 rfl rfl rfl
        · refine q_s (pc' := 41) (ls' := [vI a0]) (st' := [vI 1]) (g' := q9.2) k142_40 rfl rfl ?_
          refine q_s (pc' := 45) (ls' := [vI a0]) (st' := [vI 1]) (g' := q9.2) k142_41 rfl rfl ?_
          exact q_e k142_45 rfl rfl rfl
set_option maxHeartbeats 4000000 in
theorem jM_meet_eq (L : Nat) (a0 : Int) (a1 : Int) (g : AMem) : jM_meet L a0 a1 g = (jM_byteOf L a0 g).bind (fun q1 => (jM_byteOf L a1 q1.2).bind (fun q2 => (jM_widthOf L a1 q2.2).bind (fun q3 => if iw (q2.1 + q3.1) ≤ q1.1 then (some (0, q3.2)) else ((jM_byteOf L a1 q3.2).bind (fun q5 => (jM_byteOf L a0 q5.2).bind (fun q6 => (jM_widthOf L a0 q6.2).bind (fun q7 => if iw (q6.1 + q7.1) ≤ q5.1 then (some (0, q7.2)) else (some (1, q7.2))))))))) := by
  unfold jM_meet
  refine q_s (pc' := 1) (ls' := [vI a0, vI a1]) (st' := [vI a0]) (g' := g) k143_0 rfl rfl ?_
  refine q_callI (ls0 := [vI a0]) (rest := []) (pc' := 4) rfl k143_1 rfl (hy4 rfl rfl rfl rfl) rfl rfl hq_140 rfl (fun q1 => ?_)
  refine q_s (pc' := 5) (ls' := [vI a0, vI a1]) (st' := [vI a1, vI q1.1]) (g' := q1.2) k143_4 rfl rfl ?_
  refine q_callI (ls0 := [vI a1]) (rest := [vI q1.1]) (pc' := 8) rfl k143_5 rfl (hy4 rfl rfl rfl rfl) rfl rfl hq_140 rfl (fun q2 => ?_)
  refine q_s (pc' := 9) (ls' := [vI a0, vI a1]) (st' := [vI a1, vI q2.1, vI q1.1]) (g' := q2.2) k143_8 rfl rfl ?_
  refine q_callI (ls0 := [vI a1]) (rest := [vI q2.1, vI q1.1]) (pc' := 12) rfl k143_9 rfl (hy4 rfl rfl rfl rfl) rfl rfl hq_139 rfl (fun q3 => ?_)
  refine q_s (pc' := 13) (ls' := [vI a0, vI a1]) (st' := [vI (iw (q2.1 + q3.1)), vI q1.1]) (g' := q3.2) k143_12 rfl rfl ?_
  refine q_ic (P := iw (q2.1 + q3.1) ≤ q1.1) (t := 36) (pc' := 16) k143_13 Iff.rfl rfl rfl (fun h4 => ?_) (fun h4 => ?_)
  · refine q_s (pc' := 37) (ls' := [vI a0, vI a1]) (st' := [vI 0]) (g' := q3.2) k143_36 rfl rfl ?_
    exact q_e k143_37 rfl rfl rfl
  · refine q_s (pc' := 17) (ls' := [vI a0, vI a1]) (st' := [vI a1]) (g' := q3.2) k143_16 rfl rfl ?_
    refine q_callI (ls0 := [vI a1]) (rest := []) (pc' := 20) rfl k143_17 rfl (hy4 rfl rfl rfl rfl) rfl rfl hq_140 rfl (fun q5 => ?_)
    refine q_s (pc' := 21) (ls' := [vI a0, vI a1]) (st' := [vI a0, vI q5.1]) (g' := q5.2) k143_20 rfl rfl ?_
    refine q_callI (ls0 := [vI a0]) (rest := [vI q5.1]) (pc' := 24) rfl k143_21 rfl (hy4 rfl rfl rfl rfl) rfl rfl hq_140 rfl (fun q6 => ?_)
    refine q_s (pc' := 25) (ls' := [vI a0, vI a1]) (st' := [vI a0, vI q6.1, vI q5.1]) (g' := q6.2) k143_24 rfl rfl ?_
    refine q_callI (ls0 := [vI a0]) (rest := [vI q6.1, vI q5.1]) (pc' := 28) rfl k143_25 rfl (hy4 rfl rfl rfl rfl) rfl rfl hq_139 rfl (fun q7 => ?_)
    refine q_s (pc' := 29) (ls' := [vI a0, vI a1]) (st' := [vI (iw (q6.1 + q7.1)), vI q5.1]) (g' := q7.2) k143_28 rfl rfl ?_
    refine q_ic (P := iw (q6.1 + q7.1) ≤ q5.1) (t := 36) (pc' := 32) k143_29 Iff.rfl rfl rfl (fun h8 => ?_) (fun h8 => ?_)
    · refine q_s (pc' := 37) (ls' := [vI a0, vI a1]) (st' := [vI 0]) (g' := q7.2) k143_36 rfl rfl ?_
      exact q_e k143_37 rfl rfl rfl
    · refine q_s (pc' := 33) (ls' := [vI a0, vI a1]) (st' := [vI 1]) (g' := q7.2) k143_32 rfl rfl ?_
      refine q_s (pc' := 37) (ls' := [vI a0, vI a1]) (st' := [vI 1]) (g' := q7.2) k143_33 rfl rfl ?_
      exact q_e k143_37 rfl rfl rfl
set_option maxHeartbeats 4000000 in
theorem jM_across_eq (L : Nat) (a0 : Int) (a1 : Int) (g : AMem) : jM_across L a0 a1 g = if a0 = a1 then (some (0, g)) else ((jM_meet L a0 a1 g).bind (fun q2 => if q2.1 = 0 then (some (0, q2.2)) else (some (1, q2.2)))) := by
  unfold jM_across
  refine q_s (pc' := 1) (ls' := [vI a0, vI a1]) (st' := [vI a0]) (g' := g) k144_0 rfl rfl ?_
  refine q_s (pc' := 2) (ls' := [vI a0, vI a1]) (st' := [vI a1, vI a0]) (g' := g) k144_1 rfl rfl ?_
  refine q_ic (P := a0 = a1) (t := 17) (pc' := 5) k144_2 Iff.rfl rfl rfl (fun h1 => ?_) (fun h1 => ?_)
  · refine q_s (pc' := 18) (ls' := [vI a0, vI a1]) (st' := [vI 0]) (g' := g) k144_17 rfl rfl ?_
    exact q_e k144_18 rfl rfl rfl
  · refine q_s (pc' := 6) (ls' := [vI a0, vI a1]) (st' := [vI a0]) (g' := g) k144_5 rfl rfl ?_
    refine q_s (pc' := 7) (ls' := [vI a0, vI a1]) (st' := [vI a1, vI a0]) (g' := g) k144_6 rfl rfl ?_
    refine q_callI (ls0 := [vI a0, vI a1]) (rest := []) (pc' := 10) rfl k144_7 rfl (hy4 rfl rfl rfl rfl) rfl rfl hq_143 rfl (fun q2 => ?_)
    refine q_if (P := q2.1 = 0) (t := 17) (pc' := 13) k144_10 Iff.rfl rfl rfl (fun h3 => ?_) (fun h3 => ?_)
    · refine q_s (pc' := 18) (ls' := [vI a0, vI a1]) (st' := [vI 0]) (g' := q2.2) k144_17 rfl rfl ?_
      exact q_e k144_18 rfl rfl rfl
    · refine q_s (pc' := 14) (ls' := [vI a0, vI a1]) (st' := [vI 1]) (g' := q2.2) k144_13 rfl rfl ?_
      refine q_s (pc' := 18) (ls' := [vI a0, vI a1]) (st' := [vI 1]) (g' := q2.2) k144_14 rfl rfl ?_
      exact q_e k144_18 rfl rfl rfl
set_option maxHeartbeats 4000000 in
theorem jM_isBlock_eq (L : Nat) (a1 : Int) (g : AMem) : jM_isBlock L a1 g = (jM_in L a1 0 (iw ((g 137 1) - 1)) g).bind (fun q1 => if q1.1 = 0 ∨ q1.1 = 1 then some (q1.1, q1.2) else none) := by
  unfold jM_isBlock
  refine q_s (pc' := 1) (ls' := [vR 137, vI a1]) (st' := [vI a1]) (g' := g) k145_0 rfl rfl ?_
  refine q_s (pc' := 2) (ls' := [vR 137, vI a1]) (st' := [vI 0, vI a1]) (g' := g) k145_1 rfl rfl ?_
  refine q_s (pc' := 3) (ls' := [vR 137, vI a1]) (st' := [vR 137, vI 0, vI a1]) (g' := g) k145_2 rfl rfl ?_
  refine q_getI (w := 1) (pc' := 6) k145_3 rfl rfl rfl rfl ?_
  refine q_s (pc' := 7) (ls' := [vR 137, vI a1]) (st' := [vI 1, vI (g 137 1), vI 0, vI a1]) (g' := g) k145_6 rfl rfl ?_
  refine q_s (pc' := 8) (ls' := [vR 137, vI a1]) (st' := [vI (iw ((g 137 1) - 1)), vI 0, vI a1]) (g' := g) k145_7 rfl rfl ?_
  refine q_callI (ls0 := [vI a1, vI 0, vI (iw ((g 137 1) - 1))]) (rest := []) (pc' := 11) rfl k145_8 rfl (hy4 rfl rfl rfl rfl) rfl rfl hq_138 rfl (fun q1 => ?_)
  exact q_eb rfl k145_11 rfl rfl
set_option maxHeartbeats 4000000 in
theorem jM_isEdge_eq (L : Nat) (a1 : Int) (g : AMem) : jM_isEdge L a1 g = (jM_in L a1 0 (iw ((g 137 2) - 1)) g).bind (fun q1 => if q1.1 = 0 ∨ q1.1 = 1 then some (q1.1, q1.2) else none) := by
  unfold jM_isEdge
  refine q_s (pc' := 1) (ls' := [vR 137, vI a1]) (st' := [vI a1]) (g' := g) k146_0 rfl rfl ?_
  refine q_s (pc' := 2) (ls' := [vR 137, vI a1]) (st' := [vI 0, vI a1]) (g' := g) k146_1 rfl rfl ?_
  refine q_s (pc' := 3) (ls' := [vR 137, vI a1]) (st' := [vR 137, vI 0, vI a1]) (g' := g) k146_2 rfl rfl ?_
  refine q_getI (w := 2) (pc' := 6) k146_3 rfl rfl rfl rfl ?_
  refine q_s (pc' := 7) (ls' := [vR 137, vI a1]) (st' := [vI 1, vI (g 137 2), vI 0, vI a1]) (g' := g) k146_6 rfl rfl ?_
  refine q_s (pc' := 8) (ls' := [vR 137, vI a1]) (st' := [vI (iw ((g 137 2) - 1)), vI 0, vI a1]) (g' := g) k146_7 rfl rfl ?_
  refine q_callI (ls0 := [vI a1, vI 0, vI (iw ((g 137 2) - 1))]) (rest := []) (pc' := 11) rfl k146_8 rfl (hy4 rfl rfl rfl rfl) rfl rfl hq_138 rfl (fun q1 => ?_)
  exact q_eb rfl k146_11 rfl rfl
set_option maxHeartbeats 4000000 in
theorem jM_parameterOf_eq (L : Nat) (a1 : Int) (a2 : Int) (g : AMem) : jM_parameterOf L a1 a2 g = if 0 ≤ a1 ∧ a1 < 16 then (if 0 ≤ iw ((iw (6 * (g 142 a1))) + a2) ∧ iw ((iw (6 * (g 142 a1))) + a2) < 60 then (some (g 140 (iw ((iw (6 * (g 142 a1))) + a2)), g)) else none) else none := by
  unfold jM_parameterOf
  refine q_s (pc' := 1) (ls' := [vR 137, vI a1, vI a2]) (st' := [vR 137]) (g' := g) k147_0 rfl rfl ?_
  refine q_getF (r := 140) (pc' := 4) k147_1 rfl rfl rfl rfl ?_
  refine q_s (pc' := 6) (ls' := [vR 137, vI a1, vI a2]) (st' := [vI 6, vR 140]) (g' := g) k147_4 rfl rfl ?_
  refine q_s (pc' := 7) (ls' := [vR 137, vI a1, vI a2]) (st' := [vR 137, vI 6, vR 140]) (g' := g) k147_6 rfl rfl ?_
  refine q_getF (r := 142) (pc' := 10) k147_7 rfl rfl rfl rfl ?_
  refine q_s (pc' := 11) (ls' := [vR 137, vI a1, vI a2]) (st' := [vI a1, vR 142, vI 6, vR 140]) (g' := g) k147_10 rfl rfl ?_
  refine q_iald (n := 16) (pc' := 12) rfl k147_11 rfl rfl (fun h1 => ?_)
  refine q_s (pc' := 13) (ls' := [vR 137, vI a1, vI a2]) (st' := [vI (iw (6 * (g 142 a1))), vR 140]) (g' := g) k147_12 rfl rfl ?_
  refine q_s (pc' := 14) (ls' := [vR 137, vI a1, vI a2]) (st' := [vI a2, vI (iw (6 * (g 142 a1))), vR 140]) (g' := g) k147_13 rfl rfl ?_
  refine q_s (pc' := 15) (ls' := [vR 137, vI a1, vI a2]) (st' := [vI (iw ((iw (6 * (g 142 a1))) + a2)), vR 140]) (g' := g) k147_14 rfl rfl ?_
  refine q_iald (n := 60) (pc' := 16) rfl k147_15 rfl rfl (fun h2 => ?_)
  exact q_e k147_16 rfl rfl rfl
set_option maxHeartbeats 4000000 in
theorem jM_manyOf_eq (L : Nat) (a1 : Int) (g : AMem) : jM_manyOf L a1 g = if 0 ≤ a1 ∧ a1 < 16 then (if 0 ≤ g 142 a1 ∧ g 142 a1 < 10 then (some (g 139 (g 142 a1), g)) else none) else none := by
  unfold jM_manyOf
  refine q_s (pc' := 1) (ls' := [vR 137, vI a1]) (st' := [vR 137]) (g' := g) k148_0 rfl rfl ?_
  refine q_getF (r := 139) (pc' := 4) k148_1 rfl rfl rfl rfl ?_
  refine q_s (pc' := 5) (ls' := [vR 137, vI a1]) (st' := [vR 137, vR 139]) (g' := g) k148_4 rfl rfl ?_
  refine q_getF (r := 142) (pc' := 8) k148_5 rfl rfl rfl rfl ?_
  refine q_s (pc' := 9) (ls' := [vR 137, vI a1]) (st' := [vI a1, vR 142, vR 139]) (g' := g) k148_8 rfl rfl ?_
  refine q_iald (n := 16) (pc' := 10) rfl k148_9 rfl rfl (fun h1 => ?_)
  refine q_iald (n := 10) (pc' := 11) rfl k148_10 rfl rfl (fun h2 => ?_)
  exact q_e k148_11 rfl rfl rfl
set_option maxHeartbeats 4000000 in
theorem jM_givenOf_eq (L : Nat) (a1 : Int) (a2 : Int) (g : AMem) : jM_givenOf L a1 a2 g = if 0 ≤ iw ((iw (6 * a1)) + a2) ∧ iw ((iw (6 * a1)) + a2) < 96 then (some (g 144 (iw ((iw (6 * a1)) + a2)), g)) else none := by
  unfold jM_givenOf
  refine q_s (pc' := 1) (ls' := [vR 137, vI a1, vI a2]) (st' := [vR 137]) (g' := g) k149_0 rfl rfl ?_
  refine q_getF (r := 144) (pc' := 4) k149_1 rfl rfl rfl rfl ?_
  refine q_s (pc' := 6) (ls' := [vR 137, vI a1, vI a2]) (st' := [vI 6, vR 144]) (g' := g) k149_4 rfl rfl ?_
  refine q_s (pc' := 7) (ls' := [vR 137, vI a1, vI a2]) (st' := [vI a1, vI 6, vR 144]) (g' := g) k149_6 rfl rfl ?_
  refine q_s (pc' := 8) (ls' := [vR 137, vI a1, vI a2]) (st' := [vI (iw (6 * a1)), vR 144]) (g' := g) k149_7 rfl rfl ?_
  refine q_s (pc' := 9) (ls' := [vR 137, vI a1, vI a2]) (st' := [vI a2, vI (iw (6 * a1)), vR 144]) (g' := g) k149_8 rfl rfl ?_
  refine q_s (pc' := 10) (ls' := [vR 137, vI a1, vI a2]) (st' := [vI (iw ((iw (6 * a1)) + a2)), vR 144]) (g' := g) k149_9 rfl rfl ?_
  refine q_iald (n := 96) (pc' := 11) rfl k149_10 rfl rfl (fun h1 => ?_)
  exact q_e k149_11 rfl rfl rfl
set_option maxHeartbeats 4000000 in
theorem jM_anew_eq (L : Nat) (g : AMem) : jM_anew L g = some (g 137 2, up (up g 137 1 0) 137 2 0) := by
  unfold jM_anew
  refine q_s (pc' := 1) (ls' := [vR 137, vU]) (st' := [vR 137]) (g' := g) k150_0 rfl rfl ?_
  refine q_getI (w := 2) (pc' := 4) k150_1 rfl rfl rfl rfl ?_
  refine q_s (pc' := 5) (ls' := [vR 137, vI (g 137 2)]) (st' := []) (g' := g) k150_4 rfl rfl ?_
  refine q_s (pc' := 6) (ls' := [vR 137, vI (g 137 2)]) (st' := [vR 137]) (g' := g) k150_5 rfl rfl ?_
  refine q_s (pc' := 7) (ls' := [vR 137, vI (g 137 2)]) (st' := [vI 0, vR 137]) (g' := g) k150_6 rfl rfl ?_
  refine q_putI (w := 1) (pc' := 10) k150_7 rfl rfl rfl rfl ?_
  refine q_s (pc' := 11) (ls' := [vR 137, vI (g 137 2)]) (st' := [vR 137]) (g' := up g 137 1 0) k150_10 rfl rfl ?_
  refine q_s (pc' := 12) (ls' := [vR 137, vI (g 137 2)]) (st' := [vI 0, vR 137]) (g' := up g 137 1 0) k150_11 rfl rfl ?_
  refine q_putI (w := 2) (pc' := 15) k150_12 rfl rfl rfl rfl ?_
  refine q_s (pc' := 16) (ls' := [vR 137, vI (g 137 2)]) (st' := [vI (g 137 2)]) (g' := up (up g 137 1 0) 137 2 0) k150_15 rfl rfl ?_
  exact q_e k150_16 rfl rfl rfl
set_option maxHeartbeats 4000000 in
theorem jM_newBlock_eq (L : Nat) (g : AMem) : jM_newBlock L g = if 0 ≤ g 137 1 ∧ g 137 1 < 10 then (some (iw (((up (up g 139 (g 137 1) 0) 137 1 (iw (((up g 139 (g 137 1) 0) 137 1) + 1))) 137 1) - 1), up (up g 139 (g 137 1) 0) 137 1 (iw (((up g 139 (g 137 1) 0) 137 1) + 1)))) else none := by
  unfold jM_newBlock
  refine q_s (pc' := 1) (ls' := [vR 137]) (st' := [vR 137]) (g' := g) k151_0 rfl rfl ?_
  refine q_getF (r := 139) (pc' := 4) k151_1 rfl rfl rfl rfl ?_
  refine q_s (pc' := 5) (ls' := [vR 137]) (st' := [vR 137, vR 139]) (g' := g) k151_4 rfl rfl ?_
  refine q_getI (w := 1) (pc' := 8) k151_5 rfl rfl rfl rfl ?_
  refine q_s (pc' := 9) (ls' := [vR 137]) (st' := [vI 0, vI (g 137 1), vR 139]) (g' := g) k151_8 rfl rfl ?_
  refine q_iast (n := 10) (pc' := 10) rfl k151_9 rfl (by decide) rfl (fun h1 => ?_)
  refine q_s (pc' := 11) (ls' := [vR 137]) (st' := [vR 137]) (g' := up g 139 (g 137 1) 0) k151_10 rfl rfl ?_
  refine q_s (pc' := 12) (ls' := [vR 137]) (st' := [vR 137, vR 137]) (g' := up g 139 (g 137 1) 0) k151_11 rfl rfl ?_
  refine q_getI (w := 1) (pc' := 15) k151_12 rfl rfl rfl rfl ?_
  refine q_s (pc' := 16) (ls' := [vR 137]) (st' := [vI 1, vI ((up g 139 (g 137 1) 0) 137 1), vR 137]) (g' := up g 139 (g 137 1) 0) k151_15 rfl rfl ?_
  refine q_s (pc' := 17) (ls' := [vR 137]) (st' := [vI (iw (((up g 139 (g 137 1) 0) 137 1) + 1)), vR 137]) (g' := up g 139 (g 137 1) 0) k151_16 rfl rfl ?_
  refine q_putI (w := 1) (pc' := 20) k151_17 rfl rfl rfl rfl ?_
  refine q_s (pc' := 21) (ls' := [vR 137]) (st' := [vR 137]) (g' := up (up g 139 (g 137 1) 0) 137 1 (iw (((up g 139 (g 137 1) 0) 137 1) + 1))) k151_20 rfl rfl ?_
  refine q_getI (w := 1) (pc' := 24) k151_21 rfl rfl rfl rfl ?_
  refine q_s (pc' := 25) (ls' := [vR 137]) (st' := [vI 1, vI ((up (up g 139 (g 137 1) 0) 137 1 (iw (((up g 139 (g 137 1) 0) 137 1) + 1))) 137 1)]) (g' := up (up g 139 (g 137 1) 0) 137 1 (iw (((up g 139 (g 137 1) 0) 137 1) + 1))) k151_24 rfl rfl ?_
  refine q_s (pc' := 26) (ls' := [vR 137]) (st' := [vI (iw (((up (up g 139 (g 137 1) 0) 137 1 (iw (((up g 139 (g 137 1) 0) 137 1) + 1))) 137 1) - 1))]) (g' := up (up g 139 (g 137 1) 0) 137 1 (iw (((up g 139 (g 137 1) 0) 137 1) + 1))) k151_25 rfl rfl ?_
  exact q_e k151_26 rfl rfl rfl
set_option maxHeartbeats 4000000 in
theorem jM_block_eq (L : Nat) (g : AMem) : jM_block L g = if g 137 1 ≠ 10 then ((jM_newBlock L g).bind (fun q2 => some (q2.1, q2.2))) else ((jM_full L g).bind (fun q3 => some (q3.1, q3.2))) := by
  unfold jM_block
  refine q_s (pc' := 1) (ls' := [vR 137]) (st' := [vR 137]) (g' := g) k152_0 rfl rfl ?_
  refine q_getI (w := 1) (pc' := 4) k152_1 rfl rfl rfl rfl ?_
  refine q_s (pc' := 6) (ls' := [vR 137]) (st' := [vI 10, vI (g 137 1)]) (g' := g) k152_4 rfl rfl ?_
  refine q_ic (P := g 137 1 ≠ 10) (t := 16) (pc' := 9) k152_6 Iff.rfl rfl rfl (fun h1 => ?_) (fun h1 => ?_)
  · refine q_s (pc' := 17) (ls' := [vR 137]) (st' := [vR 137]) (g' := g) k152_16 rfl rfl ?_
    refine q_callI (ls0 := [vR 137]) (rest := []) (pc' := 20) rfl k152_17 rfl (hy4 rfl rfl rfl rfl) rfl rfl hq_151 rfl (fun q2 => ?_)
    exact q_e k152_20 rfl rfl rfl
  · refine q_s (pc' := 10) (ls' := [vR 137]) (st' := [vR 137]) (g' := g) k152_9 rfl rfl ?_
    refine q_callI (ls0 := [vR 137]) (rest := []) (pc' := 13) rfl k152_10 rfl (hy4 rfl rfl rfl rfl) rfl rfl hq_137 rfl (fun q3 => ?_)
    refine q_s (pc' := 20) (ls' := [vR 137]) (st' := [vI q3.1]) (g' := q3.2) k152_13 rfl rfl ?_
    exact q_e k152_20 rfl rfl rfl
set_option maxHeartbeats 4000000 in
theorem jM_isTaken_eq (L : Nat) (a1 : Int) (a2 : Int) (g : AMem) : jM_isTaken L a1 a2 g = jM_isTaken_5 L a1 a2 0 0 g := by
  unfold jM_isTaken
  refine q_s (pc' := 1) (ls' := [vR 137, vI a1, vI a2, vU, vU]) (st' := [vI 0]) (g' := g) k153_0 rfl rfl ?_
  refine q_s (pc' := 2) (ls' := [vR 137, vI a1, vI a2, vI 0, vU]) (st' := []) (g' := g) k153_1 rfl rfl ?_
  refine q_s (pc' := 3) (ls' := [vR 137, vI a1, vI a2, vI 0, vU]) (st' := [vI 0]) (g' := g) k153_2 rfl rfl ?_
  refine q_s (pc' := 5) (ls' := [vR 137, vI a1, vI a2, vI 0, vI 0]) (st' := []) (g' := g) k153_3 rfl rfl ?_
  rfl
set_option maxHeartbeats 4000000 in
theorem jM_isTaken_5_eq (L : Nat) (l1 : Int) (l2 : Int) (l3 : Int) (l4 : Int) (g : AMem) : jM_isTaken_5 L l1 l2 l3 l4 g = if 0 ≤ l1 ∧ l1 < 10 then (if g 139 l1 ≤ l4 then (if l3 = 0 ∨ l3 = 1 then some (l3, g) else none) else (if l3 ≠ 0 then (jM_isTaken_5 L l1 l2 1 (iw (l4 + 1)) g) else (if 0 ≤ iw ((iw (6 * l1)) + l4) ∧ iw ((iw (6 * l1)) + l4) < 60 then ((jM_meet L (g 140 (iw ((iw (6 * l1)) + l4))) l2 g).bind (fun q5 => if q5.1 = 0 then (jM_isTaken_5 L l1 l2 0 (iw (l4 + 1)) q5.2) else (jM_isTaken_5 L l1 l2 1 (iw (l4 + 1)) q5.2))) else none))) else none := by
  unfold jM_isTaken_5
  refine q_s (pc' := 7) (ls' := [vR 137, vI l1, vI l2, vI l3, vI l4]) (st' := [vI l4]) (g' := g) k153_5 rfl rfl ?_
  refine q_s (pc' := 8) (ls' := [vR 137, vI l1, vI l2, vI l3, vI l4]) (st' := [vR 137, vI l4]) (g' := g) k153_7 rfl rfl ?_
  refine q_getF (r := 139) (pc' := 11) k153_8 rfl rfl rfl rfl ?_
  refine q_s (pc' := 12) (ls' := [vR 137, vI l1, vI l2, vI l3, vI l4]) (st' := [vI l1, vR 139, vI l4]) (g' := g) k153_11 rfl rfl ?_
  refine q_iald (n := 10) (pc' := 13) rfl k153_12 rfl rfl (fun h1 => ?_)
  refine q_ic (P := g 139 l1 ≤ l4) (t := 51) (pc' := 16) k153_13 Iff.rfl rfl rfl (fun h2 => ?_) (fun h2 => ?_)
  · refine q_s (pc' := 52) (ls' := [vR 137, vI l1, vI l2, vI l3, vI l4]) (st' := [vI l3]) (g' := g) k153_51 rfl rfl ?_
    exact q_eb rfl k153_52 rfl rfl
  · refine q_s (pc' := 17) (ls' := [vR 137, vI l1, vI l2, vI l3, vI l4]) (st' := [vI l3]) (g' := g) k153_16 rfl rfl ?_
    refine q_if (P := l3 ≠ 0) (t := 39) (pc' := 20) k153_17 Iff.rfl rfl rfl (fun h3 => ?_) (fun h3 => ?_)
    · refine q_s (pc' := 40) (ls' := [vR 137, vI l1, vI l2, vI l3, vI l4]) (st' := [vI 1]) (g' := g) k153_39 rfl rfl ?_
      refine q_s (pc' := 44) (ls' := [vR 137, vI l1, vI l2, vI l3, vI l4]) (st' := [vI 1]) (g' := g) k153_40 rfl rfl ?_
      refine q_s (pc' := 45) (ls' := [vR 137, vI l1, vI l2, vI 1, vI l4]) (st' := []) (g' := g) k153_44 rfl rfl ?_
      refine q_s (pc' := 48) (ls' := [vR 137, vI l1, vI l2, vI 1, vI (iw (l4 + 1))]) (st' := []) (g' := g) k153_45 rfl rfl ?_
      refine q_s (pc' := 5) (ls' := [vR 137, vI l1, vI l2, vI 1, vI (iw (l4 + 1))]) (st' := []) (g' := g) k153_48 rfl rfl ?_
      rfl
    · refine q_s (pc' := 21) (ls' := [vR 137, vI l1, vI l2, vI l3, vI l4]) (st' := [vR 137]) (g' := g) k153_20 rfl rfl ?_
      refine q_getF (r := 140) (pc' := 24) k153_21 rfl rfl rfl rfl ?_
      refine q_s (pc' := 26) (ls' := [vR 137, vI l1, vI l2, vI l3, vI l4]) (st' := [vI 6, vR 140]) (g' := g) k153_24 rfl rfl ?_
      refine q_s (pc' := 27) (ls' := [vR 137, vI l1, vI l2, vI l3, vI l4]) (st' := [vI l1, vI 6, vR 140]) (g' := g) k153_26 rfl rfl ?_
      refine q_s (pc' := 28) (ls' := [vR 137, vI l1, vI l2, vI l3, vI l4]) (st' := [vI (iw (6 * l1)), vR 140]) (g' := g) k153_27 rfl rfl ?_
      refine q_s (pc' := 30) (ls' := [vR 137, vI l1, vI l2, vI l3, vI l4]) (st' := [vI l4, vI (iw (6 * l1)), vR 140]) (g' := g) k153_28 rfl rfl ?_
      refine q_s (pc' := 31) (ls' := [vR 137, vI l1, vI l2, vI l3, vI l4]) (st' := [vI (iw ((iw (6 * l1)) + l4)), vR 140]) (g' := g) k153_30 rfl rfl ?_
      refine q_iald (n := 60) (pc' := 32) rfl k153_31 rfl rfl (fun h4 => ?_)
      refine q_s (pc' := 33) (ls' := [vR 137, vI l1, vI l2, vI l3, vI l4]) (st' := [vI l2, vI (g 140 (iw ((iw (6 * l1)) + l4)))]) (g' := g) k153_32 rfl rfl ?_
      refine q_callI (ls0 := [vI (g 140 (iw ((iw (6 * l1)) + l4))), vI l2]) (rest := []) (pc' := 36) rfl k153_33 rfl (hy4 rfl rfl rfl rfl) rfl rfl hq_143 rfl (fun q5 => ?_)
      refine q_if (P := q5.1 = 0) (t := 43) (pc' := 39) k153_36 Iff.rfl rfl rfl (fun h6 => ?_) (fun h6 => ?_)
      · refine q_s (pc' := 44) (ls' := [vR 137, vI l1, vI l2, vI l3, vI l4]) (st' := [vI 0]) (g' := q5.2) k153_43 rfl rfl ?_
        refine q_s (pc' := 45) (ls' := [vR 137, vI l1, vI l2, vI 0, vI l4]) (st' := []) (g' := q5.2) k153_44 rfl rfl ?_
        refine q_s (pc' := 48) (ls' := [vR 137, vI l1, vI l2, vI 0, vI (iw (l4 + 1))]) (st' := []) (g' := q5.2) k153_45 rfl rfl ?_
        refine q_s (pc' := 5) (ls' := [vR 137, vI l1, vI l2, vI 0, vI (iw (l4 + 1))]) (st' := []) (g' := q5.2) k153_48 rfl rfl ?_
        rfl
      · refine q_s (pc' := 40) (ls' := [vR 137, vI l1, vI l2, vI l3, vI l4]) (st' := [vI 1]) (g' := q5.2) k153_39 rfl rfl ?_
        refine q_s (pc' := 44) (ls' := [vR 137, vI l1, vI l2, vI l3, vI l4]) (st' := [vI 1]) (g' := q5.2) k153_40 rfl rfl ?_
        refine q_s (pc' := 45) (ls' := [vR 137, vI l1, vI l2, vI 1, vI l4]) (st' := []) (g' := q5.2) k153_44 rfl rfl ?_
        refine q_s (pc' := 48) (ls' := [vR 137, vI l1, vI l2, vI 1, vI (iw (l4 + 1))]) (st' := []) (g' := q5.2) k153_45 rfl rfl ?_
        refine q_s (pc' := 5) (ls' := [vR 137, vI l1, vI l2, vI 1, vI (iw (l4 + 1))]) (st' := []) (g' := q5.2) k153_48 rfl rfl ?_
        rfl
set_option maxHeartbeats 4000000 in
theorem jM_newParameter_eq (L : Nat) (a1 : Int) (a2 : Int) (g : AMem) : jM_newParameter L a1 a2 g = if 0 ≤ a1 ∧ a1 < 10 then (if 0 ≤ iw ((iw (6 * a1)) + (g 139 a1)) ∧ iw ((iw (6 * a1)) + (g 139 a1)) < 60 then (if 0 ≤ a1 ∧ a1 < 10 then (if 0 ≤ a1 ∧ a1 < 10 then (jM_newParameter_32 L a1 a2 (g 139 a1) 0 (up (up g 140 (iw ((iw (6 * a1)) + (g 139 a1))) a2) 139 a1 (iw (((up g 140 (iw ((iw (6 * a1)) + (g 139 a1))) a2) 139 a1) + 1)))) else none) else none) else none) else none := by
  unfold jM_newParameter
  refine q_s (pc' := 1) (ls' := [vR 137, vI a1, vI a2, vU, vU]) (st' := [vR 137]) (g' := g) k154_0 rfl rfl ?_
  refine q_getF (r := 139) (pc' := 4) k154_1 rfl rfl rfl rfl ?_
  refine q_s (pc' := 5) (ls' := [vR 137, vI a1, vI a2, vU, vU]) (st' := [vI a1, vR 139]) (g' := g) k154_4 rfl rfl ?_
  refine q_iald (n := 10) (pc' := 6) rfl k154_5 rfl rfl (fun h1 => ?_)
  refine q_s (pc' := 7) (ls' := [vR 137, vI a1, vI a2, vI (g 139 a1), vU]) (st' := []) (g' := g) k154_6 rfl rfl ?_
  refine q_s (pc' := 8) (ls' := [vR 137, vI a1, vI a2, vI (g 139 a1), vU]) (st' := [vR 137]) (g' := g) k154_7 rfl rfl ?_
  refine q_getF (r := 140) (pc' := 11) k154_8 rfl rfl rfl rfl ?_
  refine q_s (pc' := 13) (ls' := [vR 137, vI a1, vI a2, vI (g 139 a1), vU]) (st' := [vI 6, vR 140]) (g' := g) k154_11 rfl rfl ?_
  refine q_s (pc' := 14) (ls' := [vR 137, vI a1, vI a2, vI (g 139 a1), vU]) (st' := [vI a1, vI 6, vR 140]) (g' := g) k154_13 rfl rfl ?_
  refine q_s (pc' := 15) (ls' := [vR 137, vI a1, vI a2, vI (g 139 a1), vU]) (st' := [vI (iw (6 * a1)), vR 140]) (g' := g) k154_14 rfl rfl ?_
  refine q_s (pc' := 16) (ls' := [vR 137, vI a1, vI a2, vI (g 139 a1), vU]) (st' := [vI (g 139 a1), vI (iw (6 * a1)), vR 140]) (g' := g) k154_15 rfl rfl ?_
  refine q_s (pc' := 17) (ls' := [vR 137, vI a1, vI a2, vI (g 139 a1), vU]) (st' := [vI (iw ((iw (6 * a1)) + (g 139 a1))), vR 140]) (g' := g) k154_16 rfl rfl ?_
  refine q_s (pc' := 18) (ls' := [vR 137, vI a1, vI a2, vI (g 139 a1), vU]) (st' := [vI a2, vI (iw ((iw (6 * a1)) + (g 139 a1))), vR 140]) (g' := g) k154_17 rfl rfl ?_
  refine q_iast (n := 60) (pc' := 19) rfl k154_18 rfl (by decide) rfl (fun h2 => ?_)
  refine q_s (pc' := 20) (ls' := [vR 137, vI a1, vI a2, vI (g 139 a1), vU]) (st' := [vR 137]) (g' := up g 140 (iw ((iw (6 * a1)) + (g 139 a1))) a2) k154_19 rfl rfl ?_
  refine q_getF (r := 139) (pc' := 23) k154_20 rfl rfl rfl rfl ?_
  refine q_s (pc' := 24) (ls' := [vR 137, vI a1, vI a2, vI (g 139 a1), vU]) (st' := [vI a1, vR 139]) (g' := up g 140 (iw ((iw (6 * a1)) + (g 139 a1))) a2) k154_23 rfl rfl ?_
  refine q_s (pc' := 25) (ls' := [vR 137, vI a1, vI a2, vI (g 139 a1), vU]) (st' := [vI a1, vR 139, vI a1, vR 139]) (g' := up g 140 (iw ((iw (6 * a1)) + (g 139 a1))) a2) k154_24 rfl rfl ?_
  refine q_iald (n := 10) (pc' := 26) rfl k154_25 rfl rfl (fun h3 => ?_)
  refine q_s (pc' := 27) (ls' := [vR 137, vI a1, vI a2, vI (g 139 a1), vU]) (st' := [vI 1, vI ((up g 140 (iw ((iw (6 * a1)) + (g 139 a1))) a2) 139 a1), vI a1, vR 139]) (g' := up g 140 (iw ((iw (6 * a1)) + (g 139 a1))) a2) k154_26 rfl rfl ?_
  refine q_s (pc' := 28) (ls' := [vR 137, vI a1, vI a2, vI (g 139 a1), vU]) (st' := [vI (iw (((up g 140 (iw ((iw (6 * a1)) + (g 139 a1))) a2) 139 a1) + 1)), vI a1, vR 139]) (g' := up g 140 (iw ((iw (6 * a1)) + (g 139 a1))) a2) k154_27 rfl rfl ?_
  refine q_iast (n := 10) (pc' := 29) rfl k154_28 rfl (by decide) rfl (fun h4 => ?_)
  refine q_s (pc' := 30) (ls' := [vR 137, vI a1, vI a2, vI (g 139 a1), vU]) (st' := [vI 0]) (g' := up (up g 140 (iw ((iw (6 * a1)) + (g 139 a1))) a2) 139 a1 (iw (((up g 140 (iw ((iw (6 * a1)) + (g 139 a1))) a2) 139 a1) + 1))) k154_29 rfl rfl ?_
  refine q_s (pc' := 32) (ls' := [vR 137, vI a1, vI a2, vI (g 139 a1), vI 0]) (st' := []) (g' := up (up g 140 (iw ((iw (6 * a1)) + (g 139 a1))) a2) 139 a1 (iw (((up g 140 (iw ((iw (6 * a1)) + (g 139 a1))) a2) 139 a1) + 1))) k154_30 rfl rfl ?_
  rfl
set_option maxHeartbeats 4000000 in
theorem jM_newParameter_32_eq (L : Nat) (l1 : Int) (l2 : Int) (l3 : Int) (l4 : Int) (g : AMem) : jM_newParameter_32 L l1 l2 l3 l4 g = if g 137 2 ≤ l4 then (some (l3, g)) else (if 0 ≤ l4 ∧ l4 < 16 then (if g 142 l4 ≠ l1 then (jM_newParameter_32 L l1 l2 l3 (iw (l4 + 1)) g) else (if 0 ≤ iw ((iw (6 * l4)) + l3) ∧ iw ((iw (6 * l4)) + l3) < 96 then (jM_newParameter_32 L l1 l2 l3 (iw (l4 + 1)) (up g 144 (iw ((iw (6 * l4)) + l3)) l2)) else none)) else none) := by
  unfold jM_newParameter_32
  refine q_s (pc' := 34) (ls' := [vR 137, vI l1, vI l2, vI l3, vI l4]) (st' := [vI l4]) (g' := g) k154_32 rfl rfl ?_
  refine q_s (pc' := 35) (ls' := [vR 137, vI l1, vI l2, vI l3, vI l4]) (st' := [vR 137, vI l4]) (g' := g) k154_34 rfl rfl ?_
  refine q_getI (w := 2) (pc' := 38) k154_35 rfl rfl rfl rfl ?_
  refine q_ic (P := g 137 2 ≤ l4) (t := 71) (pc' := 41) k154_38 Iff.rfl rfl rfl (fun h5 => ?_) (fun h5 => ?_)
  · refine q_s (pc' := 72) (ls' := [vR 137, vI l1, vI l2, vI l3, vI l4]) (st' := [vI l3]) (g' := g) k154_71 rfl rfl ?_
    exact q_e k154_72 rfl rfl rfl
  · refine q_s (pc' := 42) (ls' := [vR 137, vI l1, vI l2, vI l3, vI l4]) (st' := [vR 137]) (g' := g) k154_41 rfl rfl ?_
    refine q_getF (r := 142) (pc' := 45) k154_42 rfl rfl rfl rfl ?_
    refine q_s (pc' := 47) (ls' := [vR 137, vI l1, vI l2, vI l3, vI l4]) (st' := [vI l4, vR 142]) (g' := g) k154_45 rfl rfl ?_
    refine q_iald (n := 16) (pc' := 48) rfl k154_47 rfl rfl (fun h6 => ?_)
    refine q_s (pc' := 49) (ls' := [vR 137, vI l1, vI l2, vI l3, vI l4]) (st' := [vI l1, vI (g 142 l4)]) (g' := g) k154_48 rfl rfl ?_
    refine q_ic (P := g 142 l4 ≠ l1) (t := 65) (pc' := 52) k154_49 Iff.rfl rfl rfl (fun h7 => ?_) (fun h7 => ?_)
    · refine q_s (pc' := 68) (ls' := [vR 137, vI l1, vI l2, vI l3, vI (iw (l4 + 1))]) (st' := []) (g' := g) k154_65 rfl rfl ?_
      refine q_s (pc' := 32) (ls' := [vR 137, vI l1, vI l2, vI l3, vI (iw (l4 + 1))]) (st' := []) (g' := g) k154_68 rfl rfl ?_
      rfl
    · refine q_s (pc' := 53) (ls' := [vR 137, vI l1, vI l2, vI l3, vI l4]) (st' := [vR 137]) (g' := g) k154_52 rfl rfl ?_
      refine q_getF (r := 144) (pc' := 56) k154_53 rfl rfl rfl rfl ?_
      refine q_s (pc' := 58) (ls' := [vR 137, vI l1, vI l2, vI l3, vI l4]) (st' := [vI 6, vR 144]) (g' := g) k154_56 rfl rfl ?_
      refine q_s (pc' := 60) (ls' := [vR 137, vI l1, vI l2, vI l3, vI l4]) (st' := [vI l4, vI 6, vR 144]) (g' := g) k154_58 rfl rfl ?_
      refine q_s (pc' := 61) (ls' := [vR 137, vI l1, vI l2, vI l3, vI l4]) (st' := [vI (iw (6 * l4)), vR 144]) (g' := g) k154_60 rfl rfl ?_
      refine q_s (pc' := 62) (ls' := [vR 137, vI l1, vI l2, vI l3, vI l4]) (st' := [vI l3, vI (iw (6 * l4)), vR 144]) (g' := g) k154_61 rfl rfl ?_
      refine q_s (pc' := 63) (ls' := [vR 137, vI l1, vI l2, vI l3, vI l4]) (st' := [vI (iw ((iw (6 * l4)) + l3)), vR 144]) (g' := g) k154_62 rfl rfl ?_
      refine q_s (pc' := 64) (ls' := [vR 137, vI l1, vI l2, vI l3, vI l4]) (st' := [vI l2, vI (iw ((iw (6 * l4)) + l3)), vR 144]) (g' := g) k154_63 rfl rfl ?_
      refine q_iast (n := 96) (pc' := 65) rfl k154_64 rfl (by decide) rfl (fun h8 => ?_)
      refine q_s (pc' := 68) (ls' := [vR 137, vI l1, vI l2, vI l3, vI (iw (l4 + 1))]) (st' := []) (g' := up g 144 (iw ((iw (6 * l4)) + l3)) l2) k154_65 rfl rfl ?_
      refine q_s (pc' := 32) (ls' := [vR 137, vI l1, vI l2, vI l3, vI (iw (l4 + 1))]) (st' := []) (g' := up g 144 (iw ((iw (6 * l4)) + l3)) l2) k154_68 rfl rfl ?_
      rfl
set_option maxHeartbeats 4000000 in
theorem jM_parameter_eq (L : Nat) (a1 : Int) (a2 : Int) (g : AMem) : jM_parameter L a1 a2 g = (jM_isBlock L a1 g).bind (fun q1 => if q1.1 = 0 then ((jM_bad L q1.2).bind (fun q3 => some (q3.1, q3.2))) else ((jM_isRegion L a2 q1.2).bind (fun q4 => if q4.1 ≠ 0 then ((jM_isTaken L a1 a2 q4.2).bind (fun q6 => if q6.1 = 0 then (if 0 ≤ a1 ∧ a1 < 10 then (if q6.2 139 a1 ≠ 6 then ((jM_newParameter L a1 a2 q6.2).bind (fun q10 => some (q10.1, q10.2))) else ((jM_full L q6.2).bind (fun q11 => some (q11.1, q11.2)))) else none) else ((jM_no L q6.2).bind (fun q12 => some (q12.1, q12.2))))) else ((jM_bad L q4.2).bind (fun q13 => some (q13.1, q13.2)))))) := by
  unfold jM_parameter
  refine q_s (pc' := 1) (ls' := [vR 137, vI a1, vI a2]) (st' := [vR 137]) (g' := g) k155_0 rfl rfl ?_
  refine q_s (pc' := 2) (ls' := [vR 137, vI a1, vI a2]) (st' := [vI a1, vR 137]) (g' := g) k155_1 rfl rfl ?_
  refine q_callI (ls0 := [vR 137, vI a1]) (rest := []) (pc' := 5) rfl k155_2 rfl (hy4 rfl rfl rfl rfl) rfl rfl hq_145 rfl (fun q1 => ?_)
  refine q_if (P := q1.1 = 0) (t := 15) (pc' := 8) k155_5 Iff.rfl rfl rfl (fun h2 => ?_) (fun h2 => ?_)
  · refine q_s (pc' := 16) (ls' := [vR 137, vI a1, vI a2]) (st' := [vR 137]) (g' := q1.2) k155_15 rfl rfl ?_
    refine q_callI (ls0 := [vR 137]) (rest := []) (pc' := 19) rfl k155_16 rfl (hy4 rfl rfl rfl rfl) rfl rfl hq_135 rfl (fun q3 => ?_)
    exact q_e k155_19 rfl rfl rfl
  · refine q_s (pc' := 9) (ls' := [vR 137, vI a1, vI a2]) (st' := [vI a2]) (g' := q1.2) k155_8 rfl rfl ?_
    refine q_callI (ls0 := [vI a2]) (rest := []) (pc' := 12) rfl k155_9 rfl (hy4 rfl rfl rfl rfl) rfl rfl hq_142 rfl (fun q4 => ?_)
    refine q_if (P := q4.1 ≠ 0) (t := 20) (pc' := 15) k155_12 Iff.rfl rfl rfl (fun h5 => ?_) (fun h5 => ?_)
    · refine q_s (pc' := 21) (ls' := [vR 137, vI a1, vI a2]) (st' := [vR 137]) (g' := q4.2) k155_20 rfl rfl ?_
      refine q_s (pc' := 22) (ls' := [vR 137, vI a1, vI a2]) (st' := [vI a1, vR 137]) (g' := q4.2) k155_21 rfl rfl ?_
      refine q_s (pc' := 23) (ls' := [vR 137, vI a1, vI a2]) (st' := [vI a2, vI a1, vR 137]) (g' := q4.2) k155_22 rfl rfl ?_
      refine q_callI (ls0 := [vR 137, vI a1, vI a2, vU, vU]) (rest := []) (pc' := 26) rfl k155_23 rfl (hy4 rfl rfl rfl rfl) rfl rfl hq_153 rfl (fun q6 => ?_)
      refine q_if (P := q6.1 = 0) (t := 34) (pc' := 29) k155_26 Iff.rfl rfl rfl (fun h7 => ?_) (fun h7 => ?_)
      · refine q_s (pc' := 35) (ls' := [vR 137, vI a1, vI a2]) (st' := [vR 137]) (g' := q6.2) k155_34 rfl rfl ?_
        refine q_getF (r := 139) (pc' := 38) k155_35 rfl rfl rfl rfl ?_
        refine q_s (pc' := 39) (ls' := [vR 137, vI a1, vI a2]) (st' := [vI a1, vR 139]) (g' := q6.2) k155_38 rfl rfl ?_
        refine q_iald (n := 10) (pc' := 40) rfl k155_39 rfl rfl (fun h8 => ?_)
        refine q_s (pc' := 42) (ls' := [vR 137, vI a1, vI a2]) (st' := [vI 6, vI (q6.2 139 a1)]) (g' := q6.2) k155_40 rfl rfl ?_
        refine q_ic (P := q6.2 139 a1 ≠ 6) (t := 52) (pc' := 45) k155_42 Iff.rfl rfl rfl (fun h9 => ?_) (fun h9 => ?_)
        · refine q_s (pc' := 53) (ls' := [vR 137, vI a1, vI a2]) (st' := [vR 137]) (g' := q6.2) k155_52 rfl rfl ?_
          refine q_s (pc' := 54) (ls' := [vR 137, vI a1, vI a2]) (st' := [vI a1, vR 137]) (g' := q6.2) k155_53 rfl rfl ?_
          refine q_s (pc' := 55) (ls' := [vR 137, vI a1, vI a2]) (st' := [vI a2, vI a1, vR 137]) (g' := q6.2) k155_54 rfl rfl ?_
          refine q_callI (ls0 := [vR 137, vI a1, vI a2, vU, vU]) (rest := []) (pc' := 58) rfl k155_55 rfl (hy4 rfl rfl rfl rfl) rfl rfl hq_154 rfl (fun q10 => ?_)
          exact q_e k155_58 rfl rfl rfl
        · refine q_s (pc' := 46) (ls' := [vR 137, vI a1, vI a2]) (st' := [vR 137]) (g' := q6.2) k155_45 rfl rfl ?_
          refine q_callI (ls0 := [vR 137]) (rest := []) (pc' := 49) rfl k155_46 rfl (hy4 rfl rfl rfl rfl) rfl rfl hq_137 rfl (fun q11 => ?_)
          refine q_s (pc' := 58) (ls' := [vR 137, vI a1, vI a2]) (st' := [vI q11.1]) (g' := q11.2) k155_49 rfl rfl ?_
          exact q_e k155_58 rfl rfl rfl
      · refine q_s (pc' := 30) (ls' := [vR 137, vI a1, vI a2]) (st' := [vR 137]) (g' := q6.2) k155_29 rfl rfl ?_
        refine q_callI (ls0 := [vR 137]) (rest := []) (pc' := 33) rfl k155_30 rfl (hy4 rfl rfl rfl rfl) rfl rfl hq_136 rfl (fun q12 => ?_)
        exact q_e k155_33 rfl rfl rfl
    · refine q_s (pc' := 16) (ls' := [vR 137, vI a1, vI a2]) (st' := [vR 137]) (g' := q4.2) k155_15 rfl rfl ?_
      refine q_callI (ls0 := [vR 137]) (rest := []) (pc' := 19) rfl k155_16 rfl (hy4 rfl rfl rfl rfl) rfl rfl hq_135 rfl (fun q13 => ?_)
      exact q_e k155_19 rfl rfl rfl
set_option maxHeartbeats 4000000 in
theorem jM_newEdge_eq (L : Nat) (a1 : Int) (a2 : Int) (a3 : Int) (g : AMem) : jM_newEdge L a1 a2 a3 g = if 0 ≤ g 137 2 ∧ g 137 2 < 16 then (if 0 ≤ g 137 2 ∧ g 137 2 < 16 then (if 0 ≤ g 137 2 ∧ g 137 2 < 16 then (jM_newEdge_33 L a1 a2 a3 (g 137 2) 0 (up (up (up g 141 (g 137 2) a1) 142 (g 137 2) a2) 143 (g 137 2) a3)) else none) else none) else none := by
  unfold jM_newEdge
  refine q_s (pc' := 1) (ls' := [vR 137, vI a1, vI a2, vI a3, vU, vU]) (st' := [vR 137]) (g' := g) k156_0 rfl rfl ?_
  refine q_getI (w := 2) (pc' := 4) k156_1 rfl rfl rfl rfl ?_
  refine q_s (pc' := 6) (ls' := [vR 137, vI a1, vI a2, vI a3, vI (g 137 2), vU]) (st' := []) (g' := g) k156_4 rfl rfl ?_
  refine q_s (pc' := 7) (ls' := [vR 137, vI a1, vI a2, vI a3, vI (g 137 2), vU]) (st' := [vR 137]) (g' := g) k156_6 rfl rfl ?_
  refine q_getF (r := 141) (pc' := 10) k156_7 rfl rfl rfl rfl ?_
  refine q_s (pc' := 12) (ls' := [vR 137, vI a1, vI a2, vI a3, vI (g 137 2), vU]) (st' := [vI (g 137 2), vR 141]) (g' := g) k156_10 rfl rfl ?_
  refine q_s (pc' := 13) (ls' := [vR 137, vI a1, vI a2, vI a3, vI (g 137 2), vU]) (st' := [vI a1, vI (g 137 2), vR 141]) (g' := g) k156_12 rfl rfl ?_
  refine q_iast (n := 16) (pc' := 14) rfl k156_13 rfl (by decide) rfl (fun h1 => ?_)
  refine q_s (pc' := 15) (ls' := [vR 137, vI a1, vI a2, vI a3, vI (g 137 2), vU]) (st' := [vR 137]) (g' := up g 141 (g 137 2) a1) k156_14 rfl rfl ?_
  refine q_getF (r := 142) (pc' := 18) k156_15 rfl rfl rfl rfl ?_
  refine q_s (pc' := 20) (ls' := [vR 137, vI a1, vI a2, vI a3, vI (g 137 2), vU]) (st' := [vI (g 137 2), vR 142]) (g' := up g 141 (g 137 2) a1) k156_18 rfl rfl ?_
  refine q_s (pc' := 21) (ls' := [vR 137, vI a1, vI a2, vI a3, vI (g 137 2), vU]) (st' := [vI a2, vI (g 137 2), vR 142]) (g' := up g 141 (g 137 2) a1) k156_20 rfl rfl ?_
  refine q_iast (n := 16) (pc' := 22) rfl k156_21 rfl (by decide) rfl (fun h2 => ?_)
  refine q_s (pc' := 23) (ls' := [vR 137, vI a1, vI a2, vI a3, vI (g 137 2), vU]) (st' := [vR 137]) (g' := up (up g 141 (g 137 2) a1) 142 (g 137 2) a2) k156_22 rfl rfl ?_
  refine q_getF (r := 143) (pc' := 26) k156_23 rfl rfl rfl rfl ?_
  refine q_s (pc' := 28) (ls' := [vR 137, vI a1, vI a2, vI a3, vI (g 137 2), vU]) (st' := [vI (g 137 2), vR 143]) (g' := up (up g 141 (g 137 2) a1) 142 (g 137 2) a2) k156_26 rfl rfl ?_
  refine q_s (pc' := 29) (ls' := [vR 137, vI a1, vI a2, vI a3, vI (g 137 2), vU]) (st' := [vI a3, vI (g 137 2), vR 143]) (g' := up (up g 141 (g 137 2) a1) 142 (g 137 2) a2) k156_28 rfl rfl ?_
  refine q_iast (n := 16) (pc' := 30) rfl k156_29 rfl (by decide) rfl (fun h3 => ?_)
  refine q_s (pc' := 31) (ls' := [vR 137, vI a1, vI a2, vI a3, vI (g 137 2), vU]) (st' := [vI 0]) (g' := up (up (up g 141 (g 137 2) a1) 142 (g 137 2) a2) 143 (g 137 2) a3) k156_30 rfl rfl ?_
  refine q_s (pc' := 33) (ls' := [vR 137, vI a1, vI a2, vI a3, vI (g 137 2), vI 0]) (st' := []) (g' := up (up (up g 141 (g 137 2) a1) 142 (g 137 2) a2) 143 (g 137 2) a3) k156_31 rfl rfl ?_
  rfl
set_option maxHeartbeats 4000000 in
theorem jM_newEdge_33_eq (L : Nat) (l1 : Int) (l2 : Int) (l3 : Int) (l4 : Int) (l5 : Int) (g : AMem) : jM_newEdge_33 L l1 l2 l3 l4 l5 g = if 0 ≤ l2 ∧ l2 < 10 then (if g 139 l2 ≤ l5 then (some (l4, up g 137 2 (iw ((g 137 2) + 1)))) else (if 0 ≤ iw ((iw (6 * l2)) + l5) ∧ iw ((iw (6 * l2)) + l5) < 60 then (if 0 ≤ iw ((iw (6 * l4)) + l5) ∧ iw ((iw (6 * l4)) + l5) < 96 then (jM_newEdge_33 L l1 l2 l3 l4 (iw (l5 + 1)) (up g 144 (iw ((iw (6 * l4)) + l5)) (g 140 (iw ((iw (6 * l2)) + l5))))) else none) else none)) else none := by
  unfold jM_newEdge_33
  refine q_s (pc' := 35) (ls' := [vR 137, vI l1, vI l2, vI l3, vI l4, vI l5]) (st' := [vI l5]) (g' := g) k156_33 rfl rfl ?_
  refine q_s (pc' := 36) (ls' := [vR 137, vI l1, vI l2, vI l3, vI l4, vI l5]) (st' := [vR 137, vI l5]) (g' := g) k156_35 rfl rfl ?_
  refine q_getF (r := 139) (pc' := 39) k156_36 rfl rfl rfl rfl ?_
  refine q_s (pc' := 40) (ls' := [vR 137, vI l1, vI l2, vI l3, vI l4, vI l5]) (st' := [vI l2, vR 139, vI l5]) (g' := g) k156_39 rfl rfl ?_
  refine q_iald (n := 10) (pc' := 41) rfl k156_40 rfl rfl (fun h4 => ?_)
  refine q_ic (P := g 139 l2 ≤ l5) (t := 75) (pc' := 44) k156_41 Iff.rfl rfl rfl (fun h5 => ?_) (fun h5 => ?_)
  · refine q_s (pc' := 76) (ls' := [vR 137, vI l1, vI l2, vI l3, vI l4, vI l5]) (st' := [vR 137]) (g' := g) k156_75 rfl rfl ?_
    refine q_s (pc' := 77) (ls' := [vR 137, vI l1, vI l2, vI l3, vI l4, vI l5]) (st' := [vR 137, vR 137]) (g' := g) k156_76 rfl rfl ?_
    refine q_getI (w := 2) (pc' := 80) k156_77 rfl rfl rfl rfl ?_
    refine q_s (pc' := 81) (ls' := [vR 137, vI l1, vI l2, vI l3, vI l4, vI l5]) (st' := [vI 1, vI (g 137 2), vR 137]) (g' := g) k156_80 rfl rfl ?_
    refine q_s (pc' := 82) (ls' := [vR 137, vI l1, vI l2, vI l3, vI l4, vI l5]) (st' := [vI (iw ((g 137 2) + 1)), vR 137]) (g' := g) k156_81 rfl rfl ?_
    refine q_putI (w := 2) (pc' := 85) k156_82 rfl rfl rfl rfl ?_
    refine q_s (pc' := 87) (ls' := [vR 137, vI l1, vI l2, vI l3, vI l4, vI l5]) (st' := [vI l4]) (g' := up g 137 2 (iw ((g 137 2) + 1))) k156_85 rfl rfl ?_
    exact q_e k156_87 rfl rfl rfl
  · refine q_s (pc' := 45) (ls' := [vR 137, vI l1, vI l2, vI l3, vI l4, vI l5]) (st' := [vR 137]) (g' := g) k156_44 rfl rfl ?_
    refine q_getF (r := 144) (pc' := 48) k156_45 rfl rfl rfl rfl ?_
    refine q_s (pc' := 50) (ls' := [vR 137, vI l1, vI l2, vI l3, vI l4, vI l5]) (st' := [vI 6, vR 144]) (g' := g) k156_48 rfl rfl ?_
    refine q_s (pc' := 52) (ls' := [vR 137, vI l1, vI l2, vI l3, vI l4, vI l5]) (st' := [vI l4, vI 6, vR 144]) (g' := g) k156_50 rfl rfl ?_
    refine q_s (pc' := 53) (ls' := [vR 137, vI l1, vI l2, vI l3, vI l4, vI l5]) (st' := [vI (iw (6 * l4)), vR 144]) (g' := g) k156_52 rfl rfl ?_
    refine q_s (pc' := 55) (ls' := [vR 137, vI l1, vI l2, vI l3, vI l4, vI l5]) (st' := [vI l5, vI (iw (6 * l4)), vR 144]) (g' := g) k156_53 rfl rfl ?_
    refine q_s (pc' := 56) (ls' := [vR 137, vI l1, vI l2, vI l3, vI l4, vI l5]) (st' := [vI (iw ((iw (6 * l4)) + l5)), vR 144]) (g' := g) k156_55 rfl rfl ?_
    refine q_s (pc' := 57) (ls' := [vR 137, vI l1, vI l2, vI l3, vI l4, vI l5]) (st' := [vR 137, vI (iw ((iw (6 * l4)) + l5)), vR 144]) (g' := g) k156_56 rfl rfl ?_
    refine q_getF (r := 140) (pc' := 60) k156_57 rfl rfl rfl rfl ?_
    refine q_s (pc' := 62) (ls' := [vR 137, vI l1, vI l2, vI l3, vI l4, vI l5]) (st' := [vI 6, vR 140, vI (iw ((iw (6 * l4)) + l5)), vR 144]) (g' := g) k156_60 rfl rfl ?_
    refine q_s (pc' := 63) (ls' := [vR 137, vI l1, vI l2, vI l3, vI l4, vI l5]) (st' := [vI l2, vI 6, vR 140, vI (iw ((iw (6 * l4)) + l5)), vR 144]) (g' := g) k156_62 rfl rfl ?_
    refine q_s (pc' := 64) (ls' := [vR 137, vI l1, vI l2, vI l3, vI l4, vI l5]) (st' := [vI (iw (6 * l2)), vR 140, vI (iw ((iw (6 * l4)) + l5)), vR 144]) (g' := g) k156_63 rfl rfl ?_
    refine q_s (pc' := 66) (ls' := [vR 137, vI l1, vI l2, vI l3, vI l4, vI l5]) (st' := [vI l5, vI (iw (6 * l2)), vR 140, vI (iw ((iw (6 * l4)) + l5)), vR 144]) (g' := g) k156_64 rfl rfl ?_
    refine q_s (pc' := 67) (ls' := [vR 137, vI l1, vI l2, vI l3, vI l4, vI l5]) (st' := [vI (iw ((iw (6 * l2)) + l5)), vR 140, vI (iw ((iw (6 * l4)) + l5)), vR 144]) (g' := g) k156_66 rfl rfl ?_
    refine q_iald (n := 60) (pc' := 68) rfl k156_67 rfl rfl (fun h6 => ?_)
    refine q_iast (n := 96) (pc' := 69) rfl k156_68 rfl (by decide) rfl (fun h7 => ?_)
    refine q_s (pc' := 72) (ls' := [vR 137, vI l1, vI l2, vI l3, vI l4, vI (iw (l5 + 1))]) (st' := []) (g' := up g 144 (iw ((iw (6 * l4)) + l5)) (g 140 (iw ((iw (6 * l2)) + l5)))) k156_69 rfl rfl ?_
    refine q_s (pc' := 33) (ls' := [vR 137, vI l1, vI l2, vI l3, vI l4, vI (iw (l5 + 1))]) (st' := []) (g' := up g 144 (iw ((iw (6 * l4)) + l5)) (g 140 (iw ((iw (6 * l2)) + l5)))) k156_72 rfl rfl ?_
    rfl
