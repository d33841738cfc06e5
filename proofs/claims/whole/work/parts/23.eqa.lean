set_option maxHeartbeats 4000000 in
theorem jRg_firstByte_eq (L : Nat) (a0 : Int) (g : AMem) : jRg_firstByte L a0 g = some (iw (a0.tdiv 10), g) := by
  unfold jRg_firstByte
  refine q_s (pc' := 1) (ls' := [vI a0]) (st' := [vI a0]) (g' := g) k1_0 rfl rfl ?_
  refine q_s (pc' := 3) (ls' := [vI a0]) (st' := [vI 10, vI a0]) (g' := g) k1_1 rfl rfl ?_
  refine q_s (pc' := 4) (ls' := [vI a0]) (st' := [vI (iw (a0.tdiv 10))]) (g' := g) k1_3 rfl rfl ?_
  exact q_e k1_4 rfl rfl rfl
set_option maxHeartbeats 4000000 in
theorem jRg_width_eq (L : Nat) (a0 : Int) (g : AMem) : jRg_width L a0 g = some (iw (a0 - a0.tdiv 10 * 10), g) := by
  unfold jRg_width
  refine q_s (pc' := 1) (ls' := [vI a0]) (st' := [vI a0]) (g' := g) k2_0 rfl rfl ?_
  refine q_s (pc' := 3) (ls' := [vI a0]) (st' := [vI 10, vI a0]) (g' := g) k2_1 rfl rfl ?_
  refine q_s (pc' := 4) (ls' := [vI a0]) (st' := [vI (iw (a0 - a0.tdiv 10 * 10))]) (g' := g) k2_3 rfl rfl ?_
  exact q_e k2_4 rfl rfl rfl
set_option maxHeartbeats 4000000 in
theorem jRg_shareByte_eq (L : Nat) (a0 : Int) (a1 : Int) (g : AMem) : jRg_shareByte L a0 a1 g = (jRg_firstByte L a0 g).bind (fun q1 => (jRg_firstByte L a1 q1.2).bind (fun q2 => (jRg_width L a1 q2.2).bind (fun q3 => if iw (q2.1 + q3.1) ≤ q1.1 then (some (0, q3.2)) else ((jRg_firstByte L a1 q3.2).bind (fun q5 => (jRg_firstByte L a0 q5.2).bind (fun q6 => (jRg_width L a0 q6.2).bind (fun q7 => if iw (q6.1 + q7.1) ≤ q5.1 then (some (0, q7.2)) else (some (1, q7.2))))))))) := by
  unfold jRg_shareByte
  refine q_s (pc' := 1) (ls' := [vI a0, vI a1]) (st' := [vI a0]) (g' := g) k3_0 rfl rfl ?_
  refine q_callI (ls0 := [vI a0]) (rest := []) (pc' := 4) rfl k3_1 rfl (hy4 rfl rfl rfl rfl) rfl rfl hq_1 rfl (fun q1 => ?_)
  refine q_s (pc' := 5) (ls' := [vI a0, vI a1]) (st' := [vI a1, vI q1.1]) (g' := q1.2) k3_4 rfl rfl ?_
  refine q_callI (ls0 := [vI a1]) (rest := [vI q1.1]) (pc' := 8) rfl k3_5 rfl (hy4 rfl rfl rfl rfl) rfl rfl hq_1 rfl (fun q2 => ?_)
  refine q_s (pc' := 9) (ls' := [vI a0, vI a1]) (st' := [vI a1, vI q2.1, vI q1.1]) (g' := q2.2) k3_8 rfl rfl ?_
  refine q_callI (ls0 := [vI a1]) (rest := [vI q2.1, vI q1.1]) (pc' := 12) rfl k3_9 rfl (hy4 rfl rfl rfl rfl) rfl rfl hq_2 rfl (fun q3 => ?_)
  refine q_s (pc' := 13) (ls' := [vI a0, vI a1]) (st' := [vI (iw (q2.1 + q3.1)), vI q1.1]) (g' := q3.2) k3_12 rfl rfl ?_
  refine q_ic (P := iw (q2.1 + q3.1) ≤ q1.1) (t := 36) (pc' := 16) k3_13 Iff.rfl rfl rfl (fun h4 => ?_) (fun h4 => ?_)
  · refine q_s (pc' := 37) (ls' := [vI a0, vI a1]) (st' := [vI 0]) (g' := q3.2) k3_36 rfl rfl ?_
    exact q_e k3_37 rfl rfl rfl
  · refine q_s (pc' := 17) (ls' := [vI a0, vI a1]) (st' := [vI a1]) (g' := q3.2) k3_16 rfl rfl ?_
    refine q_callI (ls0 := [vI a1]) (rest := []) (pc' := 20) rfl k3_17 rfl (hy4 rfl rfl rfl rfl) rfl rfl hq_1 rfl (fun q5 => ?_)
    refine q_s (pc' := 21) (ls' := [vI a0, vI a1]) (st' := [vI a0, vI q5.1]) (g' := q5.2) k3_20 rfl rfl ?_
    refine q_callI (ls0 := [vI a0]) (rest := [vI q5.1]) (pc' := 24) rfl k3_21 rfl (hy4 rfl rfl rfl rfl) rfl rfl hq_1 rfl (fun q6 => ?_)
    refine q_s (pc' := 25) (ls' := [vI a0, vI a1]) (st' := [vI a0, vI q6.1, vI q5.1]) (g' := q6.2) k3_24 rfl rfl ?_
    refine q_callI (ls0 := [vI a0]) (rest := [vI q6.1, vI q5.1]) (pc' := 28) rfl k3_25 rfl (hy4 rfl rfl rfl rfl) rfl rfl hq_2 rfl (fun q7 => ?_)
    refine q_s (pc' := 29) (ls' := [vI a0, vI a1]) (st' := [vI (iw (q6.1 + q7.1)), vI q5.1]) (g' := q7.2) k3_28 rfl rfl ?_
    refine q_ic (P := iw (q6.1 + q7.1) ≤ q5.1) (t := 36) (pc' := 32) k3_29 Iff.rfl rfl rfl (fun h8 => ?_) (fun h8 => ?_)
    · refine q_s (pc' := 37) (ls' := [vI a0, vI a1]) (st' := [vI 0]) (g' := q7.2) k3_36 rfl rfl ?_
      exact q_e k3_37 rfl rfl rfl
    · refine q_s (pc' := 33) (ls' := [vI a0, vI a1]) (st' := [vI 1]) (g' := q7.2) k3_32 rfl rfl ?_
      refine q_s (pc' := 37) (ls' := [vI a0, vI a1]) (st' := [vI 1]) (g' := q7.2) k3_33 rfl rfl ?_
      exact q_e k3_37 rfl rfl rfl
set_option maxHeartbeats 4000000 in
theorem jBk_hasRoomAt_eq (L : Nat) (t0 : Int) (a1 : Int) (g : AMem) (ht0 : kin (SH L) t0 = 0) : jBk_hasRoomAt L t0 a1 g = jBk_hasRoomAt_2 L t0 a1 0 g := by
  unfold jBk_hasRoomAt
  refine q_s (pc' := 1) (ls' := [vR t0, vI a1, vU]) (st' := [vI 0]) (g' := g) k4_0 rfl rfl ?_
  refine q_s (pc' := 2) (ls' := [vR t0, vI a1, vI 0]) (st' := []) (g' := g) k4_1 rfl rfl ?_
  rfl
set_option maxHeartbeats 4000000 in
theorem jBk_hasRoomAt_2_eq (L : Nat) (t0 : Int) (l1 : Int) (l2 : Int) (g : AMem) (ht0 : kin (SH L) t0 = 0) : jBk_hasRoomAt_2 L t0 l1 l2 g = if g t0 1 ≤ l2 then (some (1, g)) else (if 0 ≤ l2 ∧ l2 < 6 then ((jRg_shareByte L (g (t0 + 1) l2) l1 g).bind (fun q3 => if q3.1 = 0 then (jBk_hasRoomAt_2 L t0 l1 (iw (l2 + 1)) q3.2) else (some (0, q3.2)))) else none) := by
  unfold jBk_hasRoomAt_2
  refine q_s (pc' := 3) (ls' := [vR t0, vI l1, vI l2]) (st' := [vI l2]) (g' := g) k4_2 rfl rfl ?_
  refine q_ldR_n (pc' := 4) k4_3 rfl rfl (by have := (k2 ht0 (by decide)); omega) ?_
  refine q_getI (w := 1) (pc' := 7) k4_4 ht0 rfl rfl rfl ?_
  refine q_ic (P := g t0 1 ≤ l2) (t := 31) (pc' := 10) k4_7 Iff.rfl rfl rfl (fun h1 => ?_) (fun h1 => ?_)
  · refine q_s (pc' := 32) (ls' := [vR t0, vI l1, vI l2]) (st' := [vI 1]) (g' := g) k4_31 rfl rfl ?_
    exact q_e k4_32 rfl rfl rfl
  · refine q_ldR_n (pc' := 11) k4_10 rfl rfl (by have := (k2 ht0 (by decide)); omega) ?_
    refine q_getF (r := t0 + 1) (pc' := 14) k4_11 ht0 rfl (kB ht0).1 rfl ?_
    refine q_s (pc' := 15) (ls' := [vR t0, vI l1, vI l2]) (st' := [vI l2, vR (t0 + 1)]) (g' := g) k4_14 rfl rfl ?_
    refine q_iald (n := 6) (pc' := 16) rfl k4_15 (kB ht0).2 rfl (fun h2 => ?_)
    refine q_s (pc' := 17) (ls' := [vR t0, vI l1, vI l2]) (st' := [vI l1, vI (g (t0 + 1) l2)]) (g' := g) k4_16 rfl rfl ?_
    refine q_callI (ls0 := [vI (g (t0 + 1) l2), vI l1]) (rest := []) (pc' := 20) rfl k4_17 rfl (hy4 rfl rfl rfl rfl) rfl rfl hq_3 rfl (fun q3 => ?_)
    refine q_if (P := q3.1 = 0) (t := 25) (pc' := 23) k4_20 Iff.rfl rfl rfl (fun h4 => ?_) (fun h4 => ?_)
    · refine q_s (pc' := 28) (ls' := [vR t0, vI l1, vI (iw (l2 + 1))]) (st' := []) (g' := q3.2) k4_25 rfl rfl ?_
      refine q_s (pc' := 2) (ls' := [vR t0, vI l1, vI (iw (l2 + 1))]) (st' := []) (g' := q3.2) k4_28 rfl rfl ?_
      rfl
    · refine q_s (pc' := 24) (ls' := [vR t0, vI l1, vI l2]) (st' := [vI 0]) (g' := q3.2) k4_23 rfl rfl ?_
      exact q_e k4_24 rfl rfl rfl
set_option maxHeartbeats 4000000 in
theorem jBk_mix_eq (L : Nat) (t0 : Int) (a1 : Int) (g : AMem) (ht0 : kin (SH L) t0 = 0) : jBk_mix L t0 a1 g = jBk_mix_15 L t0 a1 (lw ((lw (31 * a1)) + (g t0 1))) 0 g := by
  unfold jBk_mix
  refine q_s (pc' := 3) (ls' := [vR t0, vL a1, vU, vU, vU, vU]) (st' := [vL 31]) (g' := g) k5_0 rfl rfl ?_
  refine q_s (pc' := 4) (ls' := [vR t0, vL a1, vU, vU, vU, vU]) (st' := [vL a1, vL 31]) (g' := g) k5_3 rfl rfl ?_
  refine q_s (pc' := 5) (ls' := [vR t0, vL a1, vU, vU, vU, vU]) (st' := [vL (lw (31 * a1))]) (g' := g) k5_4 rfl rfl ?_
  refine q_ldR_n (pc' := 6) k5_5 rfl rfl (by have := (k2 ht0 (by decide)); omega) ?_
  refine q_getI (w := 1) (pc' := 9) k5_6 ht0 rfl rfl rfl ?_
  refine q_s (pc' := 10) (ls' := [vR t0, vL a1, vU, vU, vU, vU]) (st' := [vL (g t0 1), vL (lw (31 * a1))]) (g' := g) k5_9 rfl rfl ?_
  refine q_s (pc' := 11) (ls' := [vR t0, vL a1, vU, vU, vU, vU]) (st' := [vL (lw ((lw (31 * a1)) + (g t0 1)))]) (g' := g) k5_10 rfl rfl ?_
  refine q_s (pc' := 12) (ls' := [vR t0, vL a1, vU, vL (lw ((lw (31 * a1)) + (g t0 1))), vU, vU]) (st' := []) (g' := g) k5_11 rfl rfl ?_
  refine q_s (pc' := 13) (ls' := [vR t0, vL a1, vU, vL (lw ((lw (31 * a1)) + (g t0 1))), vU, vU]) (st' := [vI 0]) (g' := g) k5_12 rfl rfl ?_
  refine q_s (pc' := 15) (ls' := [vR t0, vL a1, vU, vL (lw ((lw (31 * a1)) + (g t0 1))), vU, vI 0]) (st' := []) (g' := g) k5_13 rfl rfl ?_
  rfl
set_option maxHeartbeats 4000000 in
theorem jBk_mix_15_eq (L : Nat) (t0 : Int) (l1 : Int) (l3 : Int) (l5 : Int) (g : AMem) (ht0 : kin (SH L) t0 = 0) : jBk_mix_15 L t0 l1 l3 l5 g = if g t0 1 ≤ l5 then (some (l3, g)) else (if 0 ≤ l5 ∧ l5 < 6 then (jBk_mix_15 L t0 l1 (lw ((lw (31 * l3)) + (g (t0 + 1) l5))) (iw (l5 + 1)) g) else none) := by
  unfold jBk_mix_15
  refine q_s (pc' := 17) (ls' := [vR t0, vL l1, vU, vL l3, vU, vI l5]) (st' := [vI l5]) (g' := g) k5_15 rfl rfl ?_
  refine q_ldR_n (pc' := 18) k5_17 rfl rfl (by have := (k2 ht0 (by decide)); omega) ?_
  refine q_getI (w := 1) (pc' := 21) k5_18 ht0 rfl rfl rfl ?_
  refine q_ic (P := g t0 1 ≤ l5) (t := 45) (pc' := 24) k5_21 Iff.rfl rfl rfl (fun h1 => ?_) (fun h1 => ?_)
  · refine q_s (pc' := 46) (ls' := [vR t0, vL l1, vU, vL l3, vU, vI l5]) (st' := [vL l3]) (g' := g) k5_45 rfl rfl ?_
    exact q_e k5_46 rfl rfl rfl
  · refine q_s (pc' := 27) (ls' := [vR t0, vL l1, vU, vL l3, vU, vI l5]) (st' := [vL 31]) (g' := g) k5_24 rfl rfl ?_
    refine q_s (pc' := 28) (ls' := [vR t0, vL l1, vU, vL l3, vU, vI l5]) (st' := [vL l3, vL 31]) (g' := g) k5_27 rfl rfl ?_
    refine q_s (pc' := 29) (ls' := [vR t0, vL l1, vU, vL l3, vU, vI l5]) (st' := [vL (lw (31 * l3))]) (g' := g) k5_28 rfl rfl ?_
    refine q_ldR_n (pc' := 30) k5_29 rfl rfl (by have := (k2 ht0 (by decide)); omega) ?_
    refine q_getF (r := t0 + 1) (pc' := 33) k5_30 ht0 rfl (kB ht0).1 rfl ?_
    refine q_s (pc' := 35) (ls' := [vR t0, vL l1, vU, vL l3, vU, vI l5]) (st' := [vI l5, vR (t0 + 1), vL (lw (31 * l3))]) (g' := g) k5_33 rfl rfl ?_
    refine q_iald (n := 6) (pc' := 36) rfl k5_35 (kB ht0).2 rfl (fun h2 => ?_)
    refine q_s (pc' := 37) (ls' := [vR t0, vL l1, vU, vL l3, vU, vI l5]) (st' := [vL (g (t0 + 1) l5), vL (lw (31 * l3))]) (g' := g) k5_36 rfl rfl ?_
    refine q_s (pc' := 38) (ls' := [vR t0, vL l1, vU, vL l3, vU, vI l5]) (st' := [vL (lw ((lw (31 * l3)) + (g (t0 + 1) l5)))]) (g' := g) k5_37 rfl rfl ?_
    refine q_s (pc' := 39) (ls' := [vR t0, vL l1, vU, vL (lw ((lw (31 * l3)) + (g (t0 + 1) l5))), vU, vI l5]) (st' := []) (g' := g) k5_38 rfl rfl ?_
    refine q_s (pc' := 42) (ls' := [vR t0, vL l1, vU, vL (lw ((lw (31 * l3)) + (g (t0 + 1) l5))), vU, vI (iw (l5 + 1))]) (st' := []) (g' := g) k5_39 rfl rfl ?_
    refine q_s (pc' := 15) (ls' := [vR t0, vL l1, vU, vL (lw ((lw (31 * l3)) + (g (t0 + 1) l5))), vU, vI (iw (l5 + 1))]) (st' := []) (g' := g) k5_42 rfl rfl ?_
    rfl
set_option maxHeartbeats 4000000 in
theorem jDi_start_eq (L : Nat) (a1 : Int) (g : AMem) : jDi_start L a1 g = some (up g 135 0 a1) := by
  unfold jDi_start
  refine q_s (pc' := 1) (ls' := [vR 135, vI a1]) (st' := [vR 135]) (g' := g) k7_0 rfl rfl ?_
  refine q_s (pc' := 2) (ls' := [vR 135, vI a1]) (st' := [vI a1, vR 135]) (g' := g) k7_1 rfl rfl ?_
  refine q_s (pc' := 3) (ls' := [vR 135, vI a1]) (st' := [vL a1, vR 135]) (g' := g) k7_2 rfl rfl ?_
  refine q_putL (w := 0) (pc' := 6) k7_3 rfl rfl rfl rfl ?_
  exact q_e k7_6 rfl rfl rfl
set_option maxHeartbeats 4000000 in
theorem jDi_nextBelow_eq (L : Nat) (a1 : Int) (g : AMem) : jDi_nextBelow L a1 g = if a1 ≤ 0 then (some (0, up g 135 0 (lw ((lw ((lw ((g 135 0) * 1103515245)) + 12345)) - (lw ((lw ((g 135 0) * 1103515245)) + 12345)).tdiv 2147483648 * 2147483648)))) else (if a1 = 0 then none else some (iw (lw ((lw (((up g 135 0 (lw ((lw ((lw ((g 135 0) * 1103515245)) + 12345)) - (lw ((lw ((g 135 0) * 1103515245)) + 12345)).tdiv 2147483648 * 2147483648))) 135 0).tdiv 65536)) - (lw (((up g 135 0 (lw ((lw ((lw ((g 135 0) * 1103515245)) + 12345)) - (lw ((lw ((g 135 0) * 1103515245)) + 12345)).tdiv 2147483648 * 2147483648))) 135 0).tdiv 65536)).tdiv a1 * a1)), up g 135 0 (lw ((lw ((lw ((g 135 0) * 1103515245)) + 12345)) - (lw ((lw ((g 135 0) * 1103515245)) + 12345)).tdiv 2147483648 * 2147483648)))) := by
  unfold jDi_nextBelow
  refine q_s (pc' := 1) (ls' := [vR 135, vI a1]) (st' := [vR 135]) (g' := g) k8_0 rfl rfl ?_
  refine q_s (pc' := 2) (ls' := [vR 135, vI a1]) (st' := [vR 135, vR 135]) (g' := g) k8_1 rfl rfl ?_
  refine q_getL (w := 0) (pc' := 5) k8_2 rfl rfl rfl rfl ?_
  refine q_s (pc' := 8) (ls' := [vR 135, vI a1]) (st' := [vL 1103515245, vL (g 135 0), vR 135]) (g' := g) k8_5 rfl rfl ?_
  refine q_s (pc' := 9) (ls' := [vR 135, vI a1]) (st' := [vL (lw ((g 135 0) * 1103515245)), vR 135]) (g' := g) k8_8 rfl rfl ?_
  refine q_s (pc' := 12) (ls' := [vR 135, vI a1]) (st' := [vL 12345, vL (lw ((g 135 0) * 1103515245)), vR 135]) (g' := g) k8_9 rfl rfl ?_
  refine q_s (pc' := 13) (ls' := [vR 135, vI a1]) (st' := [vL (lw ((lw ((g 135 0) * 1103515245)) + 12345)), vR 135]) (g' := g) k8_12 rfl rfl ?_
  refine q_s (pc' := 16) (ls' := [vR 135, vI a1]) (st' := [vL 2147483648, vL (lw ((lw ((g 135 0) * 1103515245)) + 12345)), vR 135]) (g' := g) k8_13 rfl rfl ?_
  refine q_s (pc' := 17) (ls' := [vR 135, vI a1]) (st' := [vL (lw ((lw ((lw ((g 135 0) * 1103515245)) + 12345)) - (lw ((lw ((g 135 0) * 1103515245)) + 12345)).tdiv 2147483648 * 2147483648)), vR 135]) (g' := g) k8_16 rfl rfl ?_
  refine q_putL (w := 0) (pc' := 20) k8_17 rfl rfl rfl rfl ?_
  refine q_s (pc' := 21) (ls' := [vR 135, vI a1]) (st' := [vI a1]) (g' := up g 135 0 (lw ((lw ((lw ((g 135 0) * 1103515245)) + 12345)) - (lw ((lw ((g 135 0) * 1103515245)) + 12345)).tdiv 2147483648 * 2147483648))) k8_20 rfl rfl ?_
  refine q_if (P := a1 ≤ 0) (t := 39) (pc' := 24) k8_21 Iff.rfl rfl rfl (fun h1 => ?_) (fun h1 => ?_)
  · refine q_s (pc' := 40) (ls' := [vR 135, vI a1]) (st' := [vI 0]) (g' := up g 135 0 (lw ((lw ((lw ((g 135 0) * 1103515245)) + 12345)) - (lw ((lw ((g 135 0) * 1103515245)) + 12345)).tdiv 2147483648 * 2147483648))) k8_39 rfl rfl ?_
    exact q_e k8_40 rfl rfl rfl
  · refine q_s (pc' := 25) (ls' := [vR 135, vI a1]) (st' := [vR 135]) (g' := up g 135 0 (lw ((lw ((lw ((g 135 0) * 1103515245)) + 12345)) - (lw ((lw ((g 135 0) * 1103515245)) + 12345)).tdiv 2147483648 * 2147483648))) k8_24 rfl rfl ?_
    refine q_getL (w := 0) (pc' := 28) k8_25 rfl rfl rfl rfl ?_
    refine q_s (pc' := 31) (ls' := [vR 135, vI a1]) (st' := [vL 65536, vL ((up g 135 0 (lw ((lw ((lw ((g 135 0) * 1103515245)) + 12345)) - (lw ((lw ((g 135 0) * 1103515245)) + 12345)).tdiv 2147483648 * 2147483648))) 135 0)]) (g' := up g 135 0 (lw ((lw ((lw ((g 135 0) * 1103515245)) + 12345)) - (lw ((lw ((g 135 0) * 1103515245)) + 12345)).tdiv 2147483648 * 2147483648))) k8_28 rfl rfl ?_
    refine q_s (pc' := 32) (ls' := [vR 135, vI a1]) (st' := [vL (lw (((up g 135 0 (lw ((lw ((lw ((g 135 0) * 1103515245)) + 12345)) - (lw ((lw ((g 135 0) * 1103515245)) + 12345)).tdiv 2147483648 * 2147483648))) 135 0).tdiv 65536))]) (g' := up g 135 0 (lw ((lw ((lw ((g 135 0) * 1103515245)) + 12345)) - (lw ((lw ((g 135 0) * 1103515245)) + 12345)).tdiv 2147483648 * 2147483648))) k8_31 rfl rfl ?_
    refine q_s (pc' := 33) (ls' := [vR 135, vI a1]) (st' := [vI a1, vL (lw (((up g 135 0 (lw ((lw ((lw ((g 135 0) * 1103515245)) + 12345)) - (lw ((lw ((g 135 0) * 1103515245)) + 12345)).tdiv 2147483648 * 2147483648))) 135 0).tdiv 65536))]) (g' := up g 135 0 (lw ((lw ((lw ((g 135 0) * 1103515245)) + 12345)) - (lw ((lw ((g 135 0) * 1103515245)) + 12345)).tdiv 2147483648 * 2147483648))) k8_32 rfl rfl ?_
    refine q_s (pc' := 34) (ls' := [vR 135, vI a1]) (st' := [vL a1, vL (lw (((up g 135 0 (lw ((lw ((lw ((g 135 0) * 1103515245)) + 12345)) - (lw ((lw ((g 135 0) * 1103515245)) + 12345)).tdiv 2147483648 * 2147483648))) 135 0).tdiv 65536))]) (g' := up g 135 0 (lw ((lw ((lw ((g 135 0) * 1103515245)) + 12345)) - (lw ((lw ((g 135 0) * 1103515245)) + 12345)).tdiv 2147483648 * 2147483648))) k8_33 rfl rfl ?_
    refine q_lrem (pc' := 35) rfl k8_34 rfl (fun _ => ?_)
    refine q_s (pc' := 36) (ls' := [vR 135, vI a1]) (st' := [vI (iw (lw ((lw (((up g 135 0 (lw ((lw ((lw ((g 135 0) * 1103515245)) + 12345)) - (lw ((lw ((g 135 0) * 1103515245)) + 12345)).tdiv 2147483648 * 2147483648))) 135 0).tdiv 65536)) - (lw (((up g 135 0 (lw ((lw ((lw ((g 135 0) * 1103515245)) + 12345)) - (lw ((lw ((g 135 0) * 1103515245)) + 12345)).tdiv 2147483648 * 2147483648))) 135 0).tdiv 65536)).tdiv a1 * a1)))]) (g' := up g 135 0 (lw ((lw ((lw ((g 135 0) * 1103515245)) + 12345)) - (lw ((lw ((g 135 0) * 1103515245)) + 12345)).tdiv 2147483648 * 2147483648))) k8_35 rfl rfl ?_
    refine q_s (pc' := 40) (ls' := [vR 135, vI a1]) (st' := [vI (iw (lw ((lw (((up g 135 0 (lw ((lw ((lw ((g 135 0) * 1103515245)) + 12345)) - (lw ((lw ((g 135 0) * 1103515245)) + 12345)).tdiv 2147483648 * 2147483648))) 135 0).tdiv 65536)) - (lw (((up g 135 0 (lw ((lw ((lw ((g 135 0) * 1103515245)) + 12345)) - (lw ((lw ((g 135 0) * 1103515245)) + 12345)).tdiv 2147483648 * 2147483648))) 135 0).tdiv 65536)).tdiv a1 * a1)))]) (g' := up g 135 0 (lw ((lw ((lw ((g 135 0) * 1103515245)) + 12345)) - (lw ((lw ((g 135 0) * 1103515245)) + 12345)).tdiv 2147483648 * 2147483648))) k8_36 rfl rfl ?_
    exact q_e k8_40 rfl rfl rfl
set_option maxHeartbeats 4000000 in
theorem jEd_mix_eq (L : Nat) (t0 : Int) (a1 : Int) (a3 : Int) (g : AMem) (ht0 : kin (SH L) t0 = 2) : jEd_mix L t0 a1 a3 g = jEd_mix_44 L t0 a1 a3 (lw ((lw (31 * (lw ((lw (31 * (lw ((lw (31 * a1)) + (g t0 1))))) + (g t0 2))))) + (g t0 3))) 0 g := by
  unfold jEd_mix
  refine q_s (pc' := 3) (ls' := [vR t0, vL a1, vU, vI a3, vU, vU, vU]) (st' := [vL 31]) (g' := g) k10_0 rfl rfl ?_
  refine q_s (pc' := 4) (ls' := [vR t0, vL a1, vU, vI a3, vU, vU, vU]) (st' := [vL a1, vL 31]) (g' := g) k10_3 rfl rfl ?_
  refine q_s (pc' := 5) (ls' := [vR t0, vL a1, vU, vI a3, vU, vU, vU]) (st' := [vL (lw (31 * a1))]) (g' := g) k10_4 rfl rfl ?_
  refine q_ldR_n (pc' := 6) k10_5 rfl rfl (by have := (k2 ht0 (by decide)); omega) ?_
  refine q_getI (w := 1) (pc' := 9) k10_6 ht0 rfl rfl rfl ?_
  refine q_s (pc' := 10) (ls' := [vR t0, vL a1, vU, vI a3, vU, vU, vU]) (st' := [vL (g t0 1), vL (lw (31 * a1))]) (g' := g) k10_9 rfl rfl ?_
  refine q_s (pc' := 11) (ls' := [vR t0, vL a1, vU, vI a3, vU, vU, vU]) (st' := [vL (lw ((lw (31 * a1)) + (g t0 1)))]) (g' := g) k10_10 rfl rfl ?_
  refine q_s (pc' := 13) (ls' := [vR t0, vL a1, vU, vI a3, vL (lw ((lw (31 * a1)) + (g t0 1))), vU, vU]) (st' := []) (g' := g) k10_11 rfl rfl ?_
  refine q_s (pc' := 16) (ls' := [vR t0, vL a1, vU, vI a3, vL (lw ((lw (31 * a1)) + (g t0 1))), vU, vU]) (st' := [vL 31]) (g' := g) k10_13 rfl rfl ?_
  refine q_s (pc' := 18) (ls' := [vR t0, vL a1, vU, vI a3, vL (lw ((lw (31 * a1)) + (g t0 1))), vU, vU]) (st' := [vL (lw ((lw (31 * a1)) + (g t0 1))), vL 31]) (g' := g) k10_16 rfl rfl ?_
  refine q_s (pc' := 19) (ls' := [vR t0, vL a1, vU, vI a3, vL (lw ((lw (31 * a1)) + (g t0 1))), vU, vU]) (st' := [vL (lw (31 * (lw ((lw (31 * a1)) + (g t0 1)))))]) (g' := g) k10_18 rfl rfl ?_
  refine q_ldR_n (pc' := 20) k10_19 rfl rfl (by have := (k2 ht0 (by decide)); omega) ?_
  refine q_getI (w := 2) (pc' := 23) k10_20 ht0 rfl rfl rfl ?_
  refine q_s (pc' := 24) (ls' := [vR t0, vL a1, vU, vI a3, vL (lw ((lw (31 * a1)) + (g t0 1))), vU, vU]) (st' := [vL (g t0 2), vL (lw (31 * (lw ((lw (31 * a1)) + (g t0 1)))))]) (g' := g) k10_23 rfl rfl ?_
  refine q_s (pc' := 25) (ls' := [vR t0, vL a1, vU, vI a3, vL (lw ((lw (31 * a1)) + (g t0 1))), vU, vU]) (st' := [vL (lw ((lw (31 * (lw ((lw (31 * a1)) + (g t0 1))))) + (g t0 2)))]) (g' := g) k10_24 rfl rfl ?_
  refine q_s (pc' := 27) (ls' := [vR t0, vL a1, vU, vI a3, vL (lw ((lw (31 * (lw ((lw (31 * a1)) + (g t0 1))))) + (g t0 2))), vU, vU]) (st' := []) (g' := g) k10_25 rfl rfl ?_
  refine q_s (pc' := 30) (ls' := [vR t0, vL a1, vU, vI a3, vL (lw ((lw (31 * (lw ((lw (31 * a1)) + (g t0 1))))) + (g t0 2))), vU, vU]) (st' := [vL 31]) (g' := g) k10_27 rfl rfl ?_
  refine q_s (pc' := 32) (ls' := [vR t0, vL a1, vU, vI a3, vL (lw ((lw (31 * (lw ((lw (31 * a1)) + (g t0 1))))) + (g t0 2))), vU, vU]) (st' := [vL (lw ((lw (31 * (lw ((lw (31 * a1)) + (g t0 1))))) + (g t0 2))), vL 31]) (g' := g) k10_30 rfl rfl ?_
  refine q_s (pc' := 33) (ls' := [vR t0, vL a1, vU, vI a3, vL (lw ((lw (31 * (lw ((lw (31 * a1)) + (g t0 1))))) + (g t0 2))), vU, vU]) (st' := [vL (lw (31 * (lw ((lw (31 * (lw ((lw (31 * a1)) + (g t0 1))))) + (g t0 2)))))]) (g' := g) k10_32 rfl rfl ?_
  refine q_ldR_n (pc' := 34) k10_33 rfl rfl (by have := (k2 ht0 (by decide)); omega) ?_
  refine q_getI (w := 3) (pc' := 37) k10_34 ht0 rfl rfl rfl ?_
  refine q_s (pc' := 38) (ls' := [vR t0, vL a1, vU, vI a3, vL (lw ((lw (31 * (lw ((lw (31 * a1)) + (g t0 1))))) + (g t0 2))), vU, vU]) (st' := [vL (g t0 3), vL (lw (31 * (lw ((lw (31 * (lw ((lw (31 * a1)) + (g t0 1))))) + (g t0 2)))))]) (g' := g) k10_37 rfl rfl ?_
  refine q_s (pc' := 39) (ls' := [vR t0, vL a1, vU, vI a3, vL (lw ((lw (31 * (lw ((lw (31 * a1)) + (g t0 1))))) + (g t0 2))), vU, vU]) (st' := [vL (lw ((lw (31 * (lw ((lw (31 * (lw ((lw (31 * a1)) + (g t0 1))))) + (g t0 2))))) + (g t0 3)))]) (g' := g) k10_38 rfl rfl ?_
  refine q_s (pc' := 41) (ls' := [vR t0, vL a1, vU, vI a3, vL (lw ((lw (31 * (lw ((lw (31 * (lw ((lw (31 * a1)) + (g t0 1))))) + (g t0 2))))) + (g t0 3))), vU, vU]) (st' := []) (g' := g) k10_39 rfl rfl ?_
  refine q_s (pc' := 42) (ls' := [vR t0, vL a1, vU, vI a3, vL (lw ((lw (31 * (lw ((lw (31 * (lw ((lw (31 * a1)) + (g t0 1))))) + (g t0 2))))) + (g t0 3))), vU, vU]) (st' := [vI 0]) (g' := g) k10_41 rfl rfl ?_
  refine q_s (pc' := 44) (ls' := [vR t0, vL a1, vU, vI a3, vL (lw ((lw (31 * (lw ((lw (31 * (lw ((lw (31 * a1)) + (g t0 1))))) + (g t0 2))))) + (g t0 3))), vU, vI 0]) (st' := []) (g' := g) k10_42 rfl rfl ?_
  rfl
set_option maxHeartbeats 4000000 in
theorem jEd_mix_44_eq (L : Nat) (t0 : Int) (l1 : Int) (l3 : Int) (l4 : Int) (l6 : Int) (g : AMem) (ht0 : kin (SH L) t0 = 2) : jEd_mix_44 L t0 l1 l3 l4 l6 g = if l3 ≤ l6 then (some (l4, g)) else (if 0 ≤ l6 ∧ l6 < 6 then (jEd_mix_44 L t0 l1 l3 (lw ((lw (31 * l4)) + (g (t0 + 1) l6))) (iw (l6 + 1)) g) else none) := by
  unfold jEd_mix_44
  refine q_s (pc' := 46) (ls' := [vR t0, vL l1, vU, vI l3, vL l4, vU, vI l6]) (st' := [vI l6]) (g' := g) k10_44 rfl rfl ?_
  refine q_s (pc' := 47) (ls' := [vR t0, vL l1, vU, vI l3, vL l4, vU, vI l6]) (st' := [vI l3, vI l6]) (g' := g) k10_46 rfl rfl ?_
  refine q_ic (P := l3 ≤ l6) (t := 73) (pc' := 50) k10_47 Iff.rfl rfl rfl (fun h1 => ?_) (fun h1 => ?_)
  · refine q_s (pc' := 75) (ls' := [vR t0, vL l1, vU, vI l3, vL l4, vU, vI l6]) (st' := [vL l4]) (g' := g) k10_73 rfl rfl ?_
    exact q_e k10_75 rfl rfl rfl
  · refine q_s (pc' := 53) (ls' := [vR t0, vL l1, vU, vI l3, vL l4, vU, vI l6]) (st' := [vL 31]) (g' := g) k10_50 rfl rfl ?_
    refine q_s (pc' := 55) (ls' := [vR t0, vL l1, vU, vI l3, vL l4, vU, vI l6]) (st' := [vL l4, vL 31]) (g' := g) k10_53 rfl rfl ?_
    refine q_s (pc' := 56) (ls' := [vR t0, vL l1, vU, vI l3, vL l4, vU, vI l6]) (st' := [vL (lw (31 * l4))]) (g' := g) k10_55 rfl rfl ?_
    refine q_ldR_n (pc' := 57) k10_56 rfl rfl (by have := (k2 ht0 (by decide)); omega) ?_
    refine q_getF (r := t0 + 1) (pc' := 60) k10_57 ht0 rfl (kE ht0).1 rfl ?_
    refine q_s (pc' := 62) (ls' := [vR t0, vL l1, vU, vI l3, vL l4, vU, vI l6]) (st' := [vI l6, vR (t0 + 1), vL (lw (31 * l4))]) (g' := g) k10_60 rfl rfl ?_
    refine q_iald (n := 6) (pc' := 63) rfl k10_62 (kE ht0).2 rfl (fun h2 => ?_)
    refine q_s (pc' := 64) (ls' := [vR t0, vL l1, vU, vI l3, vL l4, vU, vI l6]) (st' := [vL (g (t0 + 1) l6), vL (lw (31 * l4))]) (g' := g) k10_63 rfl rfl ?_
    refine q_s (pc' := 65) (ls' := [vR t0, vL l1, vU, vI l3, vL l4, vU, vI l6]) (st' := [vL (lw ((lw (31 * l4)) + (g (t0 + 1) l6)))]) (g' := g) k10_64 rfl rfl ?_
    refine q_s (pc' := 67) (ls' := [vR t0, vL l1, vU, vI l3, vL (lw ((lw (31 * l4)) + (g (t0 + 1) l6))), vU, vI l6]) (st' := []) (g' := g) k10_65 rfl rfl ?_
    refine q_s (pc' := 70) (ls' := [vR t0, vL l1, vU, vI l3, vL (lw ((lw (31 * l4)) + (g (t0 + 1) l6))), vU, vI (iw (l6 + 1))]) (st' := []) (g' := g) k10_67 rfl rfl ?_
    refine q_s (pc' := 44) (ls' := [vR t0, vL l1, vU, vI l3, vL (lw ((lw (31 * l4)) + (g (t0 + 1) l6))), vU, vI (iw (l6 + 1))]) (st' := []) (g' := g) k10_70 rfl rfl ?_
    rfl
set_option maxHeartbeats 4000000 in
theorem jGr_removeAll_eq (L : Nat) (t0 : Int) (g : AMem) (ht0 : kin (SH L) t0 = 3) : jGr_removeAll L t0 g = some (up (up g t0 2 0) t0 3 0) := by
  unfold jGr_removeAll
  refine q_ldR_n (pc' := 1) k12_0 rfl rfl (by have := (k2 ht0 (by decide)); omega) ?_
  refine q_s (pc' := 2) (ls' := [vR t0]) (st' := [vI 0, vR t0]) (g' := g) k12_1 rfl rfl ?_
  refine q_putI (w := 2) (pc' := 5) k12_2 ht0 rfl rfl rfl ?_
  refine q_ldR_n (pc' := 6) k12_5 rfl rfl (by have := (k2 ht0 (by decide)); omega) ?_
  refine q_s (pc' := 7) (ls' := [vR t0]) (st' := [vI 0, vR t0]) (g' := up g t0 2 0) k12_6 rfl rfl ?_
  refine q_putI (w := 3) (pc' := 10) k12_7 ht0 rfl rfl rfl ?_
  exact q_e k12_10 rfl rfl rfl
set_option maxHeartbeats 4000000 in
theorem jX_isBelow_eq (L : Nat) (a0 : Int) (a1 : Int) (g : AMem) : jX_isBelow L a0 a1 g = if a0 < 0 then (some (0, g)) else (if a1 ≤ a0 then (some (0, g)) else (some (1, g))) := by
  unfold jX_isBelow
  refine q_s (pc' := 1) (ls' := [vI a0, vI a1]) (st' := [vI a0]) (g' := g) k13_0 rfl rfl ?_
  refine q_if (P := a0 < 0) (t := 13) (pc' := 4) k13_1 Iff.rfl rfl rfl (fun h1 => ?_) (fun h1 => ?_)
  · refine q_s (pc' := 14) (ls' := [vI a0, vI a1]) (st' := [vI 0]) (g' := g) k13_13 rfl rfl ?_
    exact q_e k13_14 rfl rfl rfl
  · refine q_s (pc' := 5) (ls' := [vI a0, vI a1]) (st' := [vI a0]) (g' := g) k13_4 rfl rfl ?_
    refine q_s (pc' := 6) (ls' := [vI a0, vI a1]) (st' := [vI a1, vI a0]) (g' := g) k13_5 rfl rfl ?_
    refine q_ic (P := a1 ≤ a0) (t := 13) (pc' := 9) k13_6 Iff.rfl rfl rfl (fun h2 => ?_) (fun h2 => ?_)
    · refine q_s (pc' := 14) (ls' := [vI a0, vI a1]) (st' := [vI 0]) (g' := g) k13_13 rfl rfl ?_
      exact q_e k13_14 rfl rfl rfl
    · refine q_s (pc' := 10) (ls' := [vI a0, vI a1]) (st' := [vI 1]) (g' := g) k13_9 rfl rfl ?_
      refine q_s (pc' := 14) (ls' := [vI a0, vI a1]) (st' := [vI 1]) (g' := g) k13_10 rfl rfl ?_
      exact q_e k13_14 rfl rfl rfl
set_option maxHeartbeats 4000000 in
theorem jGr_hasBlock_eq (L : Nat) (t0 : Int) (a1 : Int) (g : AMem) (ht0 : kin (SH L) t0 = 3) : jGr_hasBlock L t0 a1 g = (jX_isBelow L a1 (g t0 2) g).bind (fun q1 => if q1.1 = 0 ∨ q1.1 = 1 then some (q1.1, q1.2) else none) := by
  unfold jGr_hasBlock
  refine q_s (pc' := 1) (ls' := [vR t0, vI a1]) (st' := [vI a1]) (g' := g) k14_0 rfl rfl ?_
  refine q_ldR_n (pc' := 2) k14_1 rfl rfl (by have := (k2 ht0 (by decide)); omega) ?_
  refine q_getI (w := 2) (pc' := 5) k14_2 ht0 rfl rfl rfl ?_
  refine q_callI (ls0 := [vI a1, vI (g t0 2)]) (rest := []) (pc' := 8) rfl k14_5 rfl (hy4 rfl rfl rfl rfl) rfl rfl hq_13 rfl (fun q1 => ?_)
  exact q_eb rfl k14_8 rfl rfl
set_option maxHeartbeats 4000000 in
theorem jGr_hasEdge_eq (L : Nat) (t0 : Int) (a1 : Int) (g : AMem) (ht0 : kin (SH L) t0 = 3) : jGr_hasEdge L t0 a1 g = (jX_isBelow L a1 (g t0 3) g).bind (fun q1 => if q1.1 = 0 ∨ q1.1 = 1 then some (q1.1, q1.2) else none) := by
  unfold jGr_hasEdge
  refine q_s (pc' := 1) (ls' := [vR t0, vI a1]) (st' := [vI a1]) (g' := g) k15_0 rfl rfl ?_
  refine q_ldR_n (pc' := 2) k15_1 rfl rfl (by have := (k2 ht0 (by decide)); omega) ?_
  refine q_getI (w := 3) (pc' := 5) k15_2 ht0 rfl rfl rfl ?_
  refine q_callI (ls0 := [vI a1, vI (g t0 3)]) (rest := []) (pc' := 8) rfl k15_5 rfl (hy4 rfl rfl rfl rfl) rfl rfl hq_13 rfl (fun q1 => ?_)
  exact q_eb rfl k15_8 rfl rfl
set_option maxHeartbeats 4000000 in
theorem jGr_goalOf_eq (L : Nat) (t0 : Int) (a1 : Int) (g : AMem) (ht0 : kin (SH L) t0 = 3) : jGr_goalOf L t0 a1 g = if 0 ≤ a1 ∧ a1 < 16 then (if 0 ≤ g (t0 + 23 + 2 * a1) 2 ∧ g (t0 + 23 + 2 * a1) 2 < 10 then (some (t0 + 2 + 2 * (g (t0 + 23 + 2 * a1) 2), g)) else none) else none := by
  unfold jGr_goalOf
  refine q_ldR_n (pc' := 1) k16_0 rfl rfl (by have := (k2 ht0 (by decide)); omega) ?_
  refine q_getF (r := t0 + 1) (pc' := 4) k16_1 ht0 rfl (kG_f ht0).1 rfl ?_
  refine q_ldR_n (pc' := 5) k16_4 rfl rfl (by have := (k2 ht0 (by decide)); omega) ?_
  refine q_getF (r := t0 + 22) (pc' := 8) k16_5 ht0 rfl (kG_f ht0).2.1 rfl ?_
  refine q_s (pc' := 9) (ls' := [vR t0, vI a1]) (st' := [vI a1, vR (t0 + 22), vR (t0 + 1)]) (g' := g) k16_8 rfl rfl ?_
  refine q_aald (n := 16) (pc' := 10) rfl k16_9 (kG_f ht0).2.2.2 rfl (t0 + 23 + 2 * a1) (fun h => (kG_e ht0 h.1 h.2).1) (fun h1 => ?_)
  refine q_getI (w := 2) (pc' := 13) k16_10 (kG_e ht0 h1.1 h1.2).2 rfl rfl rfl ?_
  refine q_aald (n := 10) (pc' := 14) rfl k16_13 (kG_f ht0).2.2.1 rfl (t0 + 2 + 2 * (g (t0 + 23 + 2 * a1) 2)) (fun h => (kG_b ht0 h.1 h.2).1) (fun h2 => ?_)
  exact q_er k16_14 e_rk16 (by have := k2 (kG_b ht0 h2.1 h2.2).2 (by decide); omega) rfl
set_option maxHeartbeats 4000000 in
theorem q_goal {β : Type} {T : Option ARes → Option β} {j pc pc' len i L : Nat} {z : Int} {ls rest : List AVal} {g : AMem} {X : Option β} {t e : Int} (hT : T none = none) (hc : look (codL j) pc = some (.invokevirtual i, len, 16, 2, z)) (ht : kin (SH L) t = 3) (hw : Nat.ble (awg rest) 8 = true) (hp : pc + 3 = pc')
    (k : 0 ≤ e ∧ e < 16 → 0 ≤ g (t + 23 + 2 * e) 2 ∧ g (t + 23 + 2 * e) 2 < 10 → T (RF j pc' ls (vR (t + 2 + 2 * (g (t + 23 + 2 * e) 2)) :: rest) (SH L) g) = X) : T (RF j pc ls (vI e :: vR t :: rest) (SH L) g) = if 0 ≤ e ∧ e < 16 then (if 0 ≤ g (t + 23 + 2 * e) 2 ∧ g (t + 23 + 2 * e) 2 < 10 then X else none) else none := by
  have hq := q_callR (T := T) (j := j) (pc := pc) (ls := ls) (st := vI e :: vR t :: rest) (sh := SH L) (g := g) (ls0 := [vR t, vI e]) (rest := rest) hT hc rfl (hy4 rfl hw (rcv0 rfl ht) rfl) rfl rfl hq_16 hp (Z := fun q => T (RF j pc' ls (vR q.1 :: rest) (SH L) q.2)) (fun q => rfl)
  rw [hq]
  show (jGr_goalOf L t e g).bind _ = _
  rw [jGr_goalOf_eq L t e g ht]
  by_cases h1 : 0 ≤ e ∧ e < 16
  · rw [if_pos h1, if_pos h1]
    by_cases h2 : 0 ≤ g (t + 23 + 2 * e) 2 ∧ g (t + 23 + 2 * e) 2 < 10
    · rw [if_pos h2, if_pos h2]
      exact k h1 h2
    · rw [if_neg h2, if_neg h2]
      rfl
  · rw [if_neg h1, if_neg h1]
    rfl
set_option maxHeartbeats 4000000 in
theorem jGr_addBlock_eq (L : Nat) (t0 : Int) (g : AMem) (ht0 : kin (SH L) t0 = 3) : jGr_addBlock L t0 g = if g t0 2 < 10 then (if 0 ≤ g t0 2 ∧ g t0 2 < 10 then (some (iw (((up (up g (t0 + 2 + 2 * (g t0 2)) 1 0) t0 2 (iw (((up g (t0 + 2 + 2 * (g t0 2)) 1 0) t0 2) + 1))) t0 2) - 1), up (up g (t0 + 2 + 2 * (g t0 2)) 1 0) t0 2 (iw (((up g (t0 + 2 + 2 * (g t0 2)) 1 0) t0 2) + 1)))) else none) else (some ((-201), g)) := by
  unfold jGr_addBlock
  refine q_ldR_n (pc' := 1) k17_0 rfl rfl (by have := (k2 ht0 (by decide)); omega) ?_
  refine q_getI (w := 2) (pc' := 4) k17_1 ht0 rfl rfl rfl ?_
  refine q_s (pc' := 6) (ls' := [vR t0]) (st' := [vI 10, vI (g t0 2)]) (g' := g) k17_4 rfl rfl ?_
  refine q_ic (P := g t0 2 < 10) (t := 13) (pc' := 9) k17_6 Iff.rfl rfl rfl (fun h1 => ?_) (fun h1 => ?_)
  · refine q_ldR_n (pc' := 14) k17_13 rfl rfl (by have := (k2 ht0 (by decide)); omega) ?_
    refine q_getF (r := t0 + 1) (pc' := 17) k17_14 ht0 rfl (kG_f ht0).1 rfl ?_
    refine q_ldR_n (pc' := 18) k17_17 rfl rfl (by have := (k2 ht0 (by decide)); omega) ?_
    refine q_getI (w := 2) (pc' := 21) k17_18 ht0 rfl rfl rfl ?_
    refine q_aald (n := 10) (pc' := 22) rfl k17_21 (kG_f ht0).2.2.1 rfl (t0 + 2 + 2 * (g t0 2)) (fun h => (kG_b ht0 h.1 h.2).1) (fun h2 => ?_)
    refine q_s (pc' := 23) (ls' := [vR t0]) (st' := [vI 0, vR (t0 + 2 + 2 * (g t0 2))]) (g' := g) k17_22 rfl rfl ?_
    refine q_putI (w := 1) (pc' := 26) k17_23 (kG_b ht0 h2.1 h2.2).2 rfl rfl rfl ?_
    refine q_ldR_n (pc' := 27) k17_26 rfl rfl (by have := (k2 ht0 (by decide)); omega) ?_
    refine q_s (pc' := 28) (ls' := [vR t0]) (st' := [vR t0, vR t0]) (g' := up g (t0 + 2 + 2 * (g t0 2)) 1 0) k17_27 rfl rfl ?_
    refine q_getI (w := 2) (pc' := 31) k17_28 ht0 rfl rfl rfl ?_
    refine q_s (pc' := 32) (ls' := [vR t0]) (st' := [vI 1, vI ((up g (t0 + 2 + 2 * (g t0 2)) 1 0) t0 2), vR t0]) (g' := up g (t0 + 2 + 2 * (g t0 2)) 1 0) k17_31 rfl rfl ?_
    refine q_s (pc' := 33) (ls' := [vR t0]) (st' := [vI (iw (((up g (t0 + 2 + 2 * (g t0 2)) 1 0) t0 2) + 1)), vR t0]) (g' := up g (t0 + 2 + 2 * (g t0 2)) 1 0) k17_32 rfl rfl ?_
    refine q_putI (w := 2) (pc' := 36) k17_33 ht0 rfl rfl rfl ?_
    refine q_ldR_n (pc' := 37) k17_36 rfl rfl (by have := (k2 ht0 (by decide)); omega) ?_
    refine q_getI (w := 2) (pc' := 40) k17_37 ht0 rfl rfl rfl ?_
    refine q_s (pc' := 41) (ls' := [vR t0]) (st' := [vI 1, vI ((up (up g (t0 + 2 + 2 * (g t0 2)) 1 0) t0 2 (iw (((up g (t0 + 2 + 2 * (g t0 2)) 1 0) t0 2) + 1))) t0 2)]) (g' := up (up g (t0 + 2 + 2 * (g t0 2)) 1 0) t0 2 (iw (((up g (t0 + 2 + 2 * (g t0 2)) 1 0) t0 2) + 1))) k17_40 rfl rfl ?_
    refine q_s (pc' := 42) (ls' := [vR t0]) (st' := [vI (iw (((up (up g (t0 + 2 + 2 * (g t0 2)) 1 0) t0 2 (iw (((up g (t0 + 2 + 2 * (g t0 2)) 1 0) t0 2) + 1))) t0 2) - 1))]) (g' := up (up g (t0 + 2 + 2 * (g t0 2)) 1 0) t0 2 (iw (((up g (t0 + 2 + 2 * (g t0 2)) 1 0) t0 2) + 1))) k17_41 rfl rfl ?_
    exact q_e k17_42 rfl rfl rfl
  · refine q_s (pc' := 12) (ls' := [vR t0]) (st' := [vI (-201)]) (g' := g) k17_9 rfl rfl ?_
    exact q_e k17_12 rfl rfl rfl
set_option maxHeartbeats 4000000 in
theorem jGr_addParameter_eq (L : Nat) (t0 : Int) (a1 : Int) (a2 : Int) (g : AMem) (ht0 : kin (SH L) t0 = 3) : jGr_addParameter L t0 a1 a2 g = (jGr_hasBlock L t0 a1 g).bind (fun q1 => if q1.1 = 0 then (some ((-201), q1.2)) else (if 0 ≤ a1 ∧ a1 < 10 then (if q1.2 (t0 + 2 + 2 * a1) 1 < 6 then (if 0 ≤ a1 ∧ a1 < 10 then (if 0 ≤ a1 ∧ a1 < 10 then (if 0 ≤ q1.2 (t0 + 2 + 2 * a1) 1 ∧ q1.2 (t0 + 2 + 2 * a1) 1 < 6 then (if 0 ≤ a1 ∧ a1 < 10 then (jGr_addParameter_66 L t0 a1 a2 (q1.2 (t0 + 2 + 2 * a1) 1) 0 (up (up q1.2 (t0 + 2 + 2 * a1 + 1) (q1.2 (t0 + 2 + 2 * a1) 1) a2) (t0 + 2 + 2 * a1) 1 (iw (((up q1.2 (t0 + 2 + 2 * a1 + 1) (q1.2 (t0 + 2 + 2 * a1) 1) a2) (t0 + 2 + 2 * a1) 1) + 1)))) else none) else none) else none) else none) else (some ((-201), q1.2))) else none)) := by
  unfold jGr_addParameter
  refine q_ldR_n (pc' := 1) k18_0 rfl rfl (by have := (k2 ht0 (by decide)); omega) ?_
  refine q_s (pc' := 2) (ls' := [vR t0, vI a1, vI a2, vU, vU]) (st' := [vI a1, vR t0]) (g' := g) k18_1 rfl rfl ?_
  refine q_callI (ls0 := [vR t0, vI a1]) (rest := []) (pc' := 5) rfl k18_2 rfl (hy4 rfl rfl (rcv0 rfl ht0) rfl) rfl rfl hq_14 rfl (fun q1 => ?_)
  refine q_if (P := q1.1 = 0) (t := 22) (pc' := 8) k18_5 Iff.rfl rfl rfl (fun h2 => ?_) (fun h2 => ?_)
  · refine q_s (pc' := 25) (ls' := [vR t0, vI a1, vI a2, vU, vU]) (st' := [vI (-201)]) (g' := q1.2) k18_22 rfl rfl ?_
    exact q_e k18_25 rfl rfl rfl
  · refine q_ldR_n (pc' := 9) k18_8 rfl rfl (by have := (k2 ht0 (by decide)); omega) ?_
    refine q_getF (r := t0 + 1) (pc' := 12) k18_9 ht0 rfl (kG_f ht0).1 rfl ?_
    refine q_s (pc' := 13) (ls' := [vR t0, vI a1, vI a2, vU, vU]) (st' := [vI a1, vR (t0 + 1)]) (g' := q1.2) k18_12 rfl rfl ?_
    refine q_aald (n := 10) (pc' := 14) rfl k18_13 (kG_f ht0).2.2.1 rfl (t0 + 2 + 2 * a1) (fun h => (kG_b ht0 h.1 h.2).1) (fun h3 => ?_)
    refine q_getI (w := 1) (pc' := 17) k18_14 (kG_b ht0 h3.1 h3.2).2 rfl rfl rfl ?_
    refine q_s (pc' := 19) (ls' := [vR t0, vI a1, vI a2, vU, vU]) (st' := [vI 6, vI (q1.2 (t0 + 2 + 2 * a1) 1)]) (g' := q1.2) k18_17 rfl rfl ?_
    refine q_ic (P := q1.2 (t0 + 2 + 2 * a1) 1 < 6) (t := 26) (pc' := 22) k18_19 Iff.rfl rfl rfl (fun h4 => ?_) (fun h4 => ?_)
    · refine q_ldR_n (pc' := 27) k18_26 rfl rfl (by have := (k2 ht0 (by decide)); omega) ?_
      refine q_getF (r := t0 + 1) (pc' := 30) k18_27 ht0 rfl (kG_f ht0).1 rfl ?_
      refine q_s (pc' := 31) (ls' := [vR t0, vI a1, vI a2, vU, vU]) (st' := [vI a1, vR (t0 + 1)]) (g' := q1.2) k18_30 rfl rfl ?_
      refine q_aald (n := 10) (pc' := 32) rfl k18_31 (kG_f ht0).2.2.1 rfl (t0 + 2 + 2 * a1) (fun h => (kG_b ht0 h.1 h.2).1) (fun h5 => ?_)
      refine q_getI (w := 1) (pc' := 35) k18_32 (kG_b ht0 h5.1 h5.2).2 rfl rfl rfl ?_
      refine q_s (pc' := 36) (ls' := [vR t0, vI a1, vI a2, vI (q1.2 (t0 + 2 + 2 * a1) 1), vU]) (st' := []) (g' := q1.2) k18_35 rfl rfl ?_
      refine q_ldR_n (pc' := 37) k18_36 rfl rfl (by have := (k2 ht0 (by decide)); omega) ?_
      refine q_getF (r := t0 + 1) (pc' := 40) k18_37 ht0 rfl (kG_f ht0).1 rfl ?_
      refine q_s (pc' := 41) (ls' := [vR t0, vI a1, vI a2, vI (q1.2 (t0 + 2 + 2 * a1) 1), vU]) (st' := [vI a1, vR (t0 + 1)]) (g' := q1.2) k18_40 rfl rfl ?_
      refine q_aald (n := 10) (pc' := 42) rfl k18_41 (kG_f ht0).2.2.1 rfl (t0 + 2 + 2 * a1) (fun h => (kG_b ht0 h.1 h.2).1) (fun h6 => ?_)
      refine q_getF (r := t0 + 2 + 2 * a1 + 1) (pc' := 45) k18_42 (kG_b ht0 h6.1 h6.2).2 rfl (kB (kG_b ht0 h6.1 h6.2).2).1 rfl ?_
      refine q_s (pc' := 46) (ls' := [vR t0, vI a1, vI a2, vI (q1.2 (t0 + 2 + 2 * a1) 1), vU]) (st' := [vI (q1.2 (t0 + 2 + 2 * a1) 1), vR (t0 + 2 + 2 * a1 + 1)]) (g' := q1.2) k18_45 rfl rfl ?_
      refine q_s (pc' := 47) (ls' := [vR t0, vI a1, vI a2, vI (q1.2 (t0 + 2 + 2 * a1) 1), vU]) (st' := [vI a2, vI (q1.2 (t0 + 2 + 2 * a1) 1), vR (t0 + 2 + 2 * a1 + 1)]) (g' := q1.2) k18_46 rfl rfl ?_
      refine q_iast (n := 6) (pc' := 48) rfl k18_47 (kB (kG_b ht0 h6.1 h6.2).2).2 (by have := k2 (kG_b ht0 h6.1 h6.2).2 (by decide); omega) rfl (fun h7 => ?_)
      refine q_ldR_n (pc' := 49) k18_48 rfl rfl (by have := (k2 ht0 (by decide)); omega) ?_
      refine q_getF (r := t0 + 1) (pc' := 52) k18_49 ht0 rfl (kG_f ht0).1 rfl ?_
      refine q_s (pc' := 53) (ls' := [vR t0, vI a1, vI a2, vI (q1.2 (t0 + 2 + 2 * a1) 1), vU]) (st' := [vI a1, vR (t0 + 1)]) (g' := up q1.2 (t0 + 2 + 2 * a1 + 1) (q1.2 (t0 + 2 + 2 * a1) 1) a2) k18_52 rfl rfl ?_
      refine q_aald (n := 10) (pc' := 54) rfl k18_53 (kG_f ht0).2.2.1 rfl (t0 + 2 + 2 * a1) (fun h => (kG_b ht0 h.1 h.2).1) (fun h8 => ?_)
      refine q_s (pc' := 55) (ls' := [vR t0, vI a1, vI a2, vI (q1.2 (t0 + 2 + 2 * a1) 1), vU]) (st' := [vR (t0 + 2 + 2 * a1), vR (t0 + 2 + 2 * a1)]) (g' := up q1.2 (t0 + 2 + 2 * a1 + 1) (q1.2 (t0 + 2 + 2 * a1) 1) a2) k18_54 rfl rfl ?_
      refine q_getI (w := 1) (pc' := 58) k18_55 (kG_b ht0 h8.1 h8.2).2 rfl rfl rfl ?_
      refine q_s (pc' := 59) (ls' := [vR t0, vI a1, vI a2, vI (q1.2 (t0 + 2 + 2 * a1) 1), vU]) (st' := [vI 1, vI ((up q1.2 (t0 + 2 + 2 * a1 + 1) (q1.2 (t0 + 2 + 2 * a1) 1) a2) (t0 + 2 + 2 * a1) 1), vR (t0 + 2 + 2 * a1)]) (g' := up q1.2 (t0 + 2 + 2 * a1 + 1) (q1.2 (t0 + 2 + 2 * a1) 1) a2) k18_58 rfl rfl ?_
      refine q_s (pc' := 60) (ls' := [vR t0, vI a1, vI a2, vI (q1.2 (t0 + 2 + 2 * a1) 1), vU]) (st' := [vI (iw (((up q1.2 (t0 + 2 + 2 * a1 + 1) (q1.2 (t0 + 2 + 2 * a1) 1) a2) (t0 + 2 + 2 * a1) 1) + 1)), vR (t0 + 2 + 2 * a1)]) (g' := up q1.2 (t0 + 2 + 2 * a1 + 1) (q1.2 (t0 + 2 + 2 * a1) 1) a2) k18_59 rfl rfl ?_
      refine q_putI (w := 1) (pc' := 63) k18_60 (kG_b ht0 h8.1 h8.2).2 rfl rfl rfl ?_
      refine q_s (pc' := 64) (ls' := [vR t0, vI a1, vI a2, vI (q1.2 (t0 + 2 + 2 * a1) 1), vU]) (st' := [vI 0]) (g' := up (up q1.2 (t0 + 2 + 2 * a1 + 1) (q1.2 (t0 + 2 + 2 * a1) 1) a2) (t0 + 2 + 2 * a1) 1 (iw (((up q1.2 (t0 + 2 + 2 * a1 + 1) (q1.2 (t0 + 2 + 2 * a1) 1) a2) (t0 + 2 + 2 * a1) 1) + 1))) k18_63 rfl rfl ?_
      refine q_s (pc' := 66) (ls' := [vR t0, vI a1, vI a2, vI (q1.2 (t0 + 2 + 2 * a1) 1), vI 0]) (st' := []) (g' := up (up q1.2 (t0 + 2 + 2 * a1 + 1) (q1.2 (t0 + 2 + 2 * a1) 1) a2) (t0 + 2 + 2 * a1) 1 (iw (((up q1.2 (t0 + 2 + 2 * a1 + 1) (q1.2 (t0 + 2 + 2 * a1) 1) a2) (t0 + 2 + 2 * a1) 1) + 1))) k18_64 rfl rfl ?_
      rfl
    · refine q_s (pc' := 25) (ls' := [vR t0, vI a1, vI a2, vU, vU]) (st' := [vI (-201)]) (g' := q1.2) k18_22 rfl rfl ?_
      exact q_e k18_25 rfl rfl rfl
set_option maxHeartbeats 4000000 in
theorem jGr_addParameter_66_eq (L : Nat) (t0 : Int) (l1 : Int) (l2 : Int) (l3 : Int) (l4 : Int) (g : AMem) (ht0 : kin (SH L) t0 = 3) : jGr_addParameter_66 L t0 l1 l2 l3 l4 g = if g t0 3 ≤ l4 then (some (l3, g)) else (if 0 ≤ l4 ∧ l4 < 16 then (if g (t0 + 23 + 2 * l4) 2 ≠ l1 then (jGr_addParameter_66 L t0 l1 l2 l3 (iw (l4 + 1)) g) else (if 0 ≤ l4 ∧ l4 < 16 then (if 0 ≤ l3 ∧ l3 < 6 then (jGr_addParameter_66 L t0 l1 l2 l3 (iw (l4 + 1)) (up g (t0 + 23 + 2 * l4 + 1) l3 l2)) else none) else none)) else none) := by
  unfold jGr_addParameter_66
  refine q_s (pc' := 68) (ls' := [vR t0, vI l1, vI l2, vI l3, vI l4]) (st' := [vI l4]) (g' := g) k18_66 rfl rfl ?_
  refine q_ldR_n (pc' := 69) k18_68 rfl rfl (by have := (k2 ht0 (by decide)); omega) ?_
  refine q_getI (w := 3) (pc' := 72) k18_69 ht0 rfl rfl rfl ?_
  refine q_ic (P := g t0 3 ≤ l4) (t := 108) (pc' := 75) k18_72 Iff.rfl rfl rfl (fun h9 => ?_) (fun h9 => ?_)
  · refine q_s (pc' := 109) (ls' := [vR t0, vI l1, vI l2, vI l3, vI l4]) (st' := [vI l3]) (g' := g) k18_108 rfl rfl ?_
    exact q_e k18_109 rfl rfl rfl
  · refine q_ldR_n (pc' := 76) k18_75 rfl rfl (by have := (k2 ht0 (by decide)); omega) ?_
    refine q_getF (r := t0 + 22) (pc' := 79) k18_76 ht0 rfl (kG_f ht0).2.1 rfl ?_
    refine q_s (pc' := 81) (ls' := [vR t0, vI l1, vI l2, vI l3, vI l4]) (st' := [vI l4, vR (t0 + 22)]) (g' := g) k18_79 rfl rfl ?_
    refine q_aald (n := 16) (pc' := 82) rfl k18_81 (kG_f ht0).2.2.2 rfl (t0 + 23 + 2 * l4) (fun h => (kG_e ht0 h.1 h.2).1) (fun h10 => ?_)
    refine q_getI (w := 2) (pc' := 85) k18_82 (kG_e ht0 h10.1 h10.2).2 rfl rfl rfl ?_
    refine q_s (pc' := 86) (ls' := [vR t0, vI l1, vI l2, vI l3, vI l4]) (st' := [vI l1, vI (g (t0 + 23 + 2 * l4) 2)]) (g' := g) k18_85 rfl rfl ?_
    refine q_ic (P := g (t0 + 23 + 2 * l4) 2 ≠ l1) (t := 102) (pc' := 89) k18_86 Iff.rfl rfl rfl (fun h11 => ?_) (fun h11 => ?_)
    · refine q_s (pc' := 105) (ls' := [vR t0, vI l1, vI l2, vI l3, vI (iw (l4 + 1))]) (st' := []) (g' := g) k18_102 rfl rfl ?_
      refine q_s (pc' := 66) (ls' := [vR t0, vI l1, vI l2, vI l3, vI (iw (l4 + 1))]) (st' := []) (g' := g) k18_105 rfl rfl ?_
      rfl
    · refine q_ldR_n (pc' := 90) k18_89 rfl rfl (by have := (k2 ht0 (by decide)); omega) ?_
      refine q_getF (r := t0 + 22) (pc' := 93) k18_90 ht0 rfl (kG_f ht0).2.1 rfl ?_
      refine q_s (pc' := 95) (ls' := [vR t0, vI l1, vI l2, vI l3, vI l4]) (st' := [vI l4, vR (t0 + 22)]) (g' := g) k18_93 rfl rfl ?_
      refine q_aald (n := 16) (pc' := 96) rfl k18_95 (kG_f ht0).2.2.2 rfl (t0 + 23 + 2 * l4) (fun h => (kG_e ht0 h.1 h.2).1) (fun h12 => ?_)
      refine q_getF (r := t0 + 23 + 2 * l4 + 1) (pc' := 99) k18_96 (kG_e ht0 h12.1 h12.2).2 rfl (kE (kG_e ht0 h12.1 h12.2).2).1 rfl ?_
      refine q_s (pc' := 100) (ls' := [vR t0, vI l1, vI l2, vI l3, vI l4]) (st' := [vI l3, vR (t0 + 23 + 2 * l4 + 1)]) (g' := g) k18_99 rfl rfl ?_
      refine q_s (pc' := 101) (ls' := [vR t0, vI l1, vI l2, vI l3, vI l4]) (st' := [vI l2, vI l3, vR (t0 + 23 + 2 * l4 + 1)]) (g' := g) k18_100 rfl rfl ?_
      refine q_iast (n := 6) (pc' := 102) rfl k18_101 (kE (kG_e ht0 h12.1 h12.2).2).2 (by have := k2 (kG_e ht0 h12.1 h12.2).2 (by decide); omega) rfl (fun h13 => ?_)
      refine q_s (pc' := 105) (ls' := [vR t0, vI l1, vI l2, vI l3, vI (iw (l4 + 1))]) (st' := []) (g' := up g (t0 + 23 + 2 * l4 + 1) l3 l2) k18_102 rfl rfl ?_
      refine q_s (pc' := 66) (ls' := [vR t0, vI l1, vI l2, vI l3, vI (iw (l4 + 1))]) (st' := []) (g' := up g (t0 + 23 + 2 * l4 + 1) l3 l2) k18_105 rfl rfl ?_
      rfl
set_option maxHeartbeats 4000000 in
theorem jGr_addEdge_eq (L : Nat) (t0 : Int) (a1 : Int) (a2 : Int) (a3 : Int) (g : AMem) (ht0 : kin (SH L) t0 = 3) : jGr_addEdge L t0 a1 a2 a3 g = (jGr_hasBlock L t0 a1 g).bind (fun q1 => if q1.1 = 0 then (some ((-201), q1.2)) else ((jGr_hasBlock L t0 a2 q1.2).bind (fun q3 => if q3.1 = 0 then (some ((-201), q3.2)) else (if q3.2 t0 3 < 16 then (if 0 ≤ q3.2 t0 3 ∧ q3.2 t0 3 < 16 then (if 0 ≤ a2 ∧ a2 < 10 then (if 0 ≤ a2 ∧ a2 < 10 then (if 0 ≤ (up (up (up q3.2 (t0 + 23 + 2 * (q3.2 t0 3)) 1 a1) (t0 + 23 + 2 * (q3.2 t0 3)) 2 a2) (t0 + 23 + 2 * (q3.2 t0 3)) 3 a3) (t0 + 2 + 2 * a2) 1 ∧ (up (up (up q3.2 (t0 + 23 + 2 * (q3.2 t0 3)) 1 a1) (t0 + 23 + 2 * (q3.2 t0 3)) 2 a2) (t0 + 23 + 2 * (q3.2 t0 3)) 3 a3) (t0 + 2 + 2 * a2) 1 ≤ 6 then (some (iw (((up (cpy (up (up (up q3.2 (t0 + 23 + 2 * (q3.2 t0 3)) 1 a1) (t0 + 23 + 2 * (q3.2 t0 3)) 2 a2) (t0 + 23 + 2 * (q3.2 t0 3)) 3 a3) (t0 + 2 + 2 * a2 + 1) 0 (t0 + 23 + 2 * (q3.2 t0 3) + 1) 0 ((up (up (up q3.2 (t0 + 23 + 2 * (q3.2 t0 3)) 1 a1) (t0 + 23 + 2 * (q3.2 t0 3)) 2 a2) (t0 + 23 + 2 * (q3.2 t0 3)) 3 a3) (t0 + 2 + 2 * a2) 1)) t0 3 (iw (((cpy (up (up (up q3.2 (t0 + 23 + 2 * (q3.2 t0 3)) 1 a1) (t0 + 23 + 2 * (q3.2 t0 3)) 2 a2) (t0 + 23 + 2 * (q3.2 t0 3)) 3 a3) (t0 + 2 + 2 * a2 + 1) 0 (t0 + 23 + 2 * (q3.2 t0 3) + 1) 0 ((up (up (up q3.2 (t0 + 23 + 2 * (q3.2 t0 3)) 1 a1) (t0 + 23 + 2 * (q3.2 t0 3)) 2 a2) (t0 + 23 + 2 * (q3.2 t0 3)) 3 a3) (t0 + 2 + 2 * a2) 1)) t0 3) + 1))) t0 3) - 1), up (cpy (up (up (up q3.2 (t0 + 23 + 2 * (q3.2 t0 3)) 1 a1) (t0 + 23 + 2 * (q3.2 t0 3)) 2 a2) (t0 + 23 + 2 * (q3.2 t0 3)) 3 a3) (t0 + 2 + 2 * a2 + 1) 0 (t0 + 23 + 2 * (q3.2 t0 3) + 1) 0 ((up (up (up q3.2 (t0 + 23 + 2 * (q3.2 t0 3)) 1 a1) (t0 + 23 + 2 * (q3.2 t0 3)) 2 a2) (t0 + 23 + 2 * (q3.2 t0 3)) 3 a3) (t0 + 2 + 2 * a2) 1)) t0 3 (iw (((cpy (up (up (up q3.2 (t0 + 23 + 2 * (q3.2 t0 3)) 1 a1) (t0 + 23 + 2 * (q3.2 t0 3)) 2 a2) (t0 + 23 + 2 * (q3.2 t0 3)) 3 a3) (t0 + 2 + 2 * a2 + 1) 0 (t0 + 23 + 2 * (q3.2 t0 3) + 1) 0 ((up (up (up q3.2 (t0 + 23 + 2 * (q3.2 t0 3)) 1 a1) (t0 + 23 + 2 * (q3.2 t0 3)) 2 a2) (t0 + 23 + 2 * (q3.2 t0 3)) 3 a3) (t0 + 2 + 2 * a2) 1)) t0 3) + 1)))) else none) else none) else none) else none) else (some ((-201), q3.2)))))) := by
  unfold jGr_addEdge
  refine q_ldR_n (pc' := 1) k19_0 rfl rfl (by have := (k2 ht0 (by decide)); omega) ?_
  refine q_s (pc' := 2) (ls' := [vR t0, vI a1, vI a2, vI a3, vU]) (st' := [vI a1, vR t0]) (g' := g) k19_1 rfl rfl ?_
  refine q_callI (ls0 := [vR t0, vI a1]) (rest := []) (pc' := 5) rfl k19_2 rfl (hy4 rfl rfl (rcv0 rfl ht0) rfl) rfl rfl hq_14 rfl (fun q1 => ?_)
  refine q_if (P := q1.1 = 0) (t := 25) (pc' := 8) k19_5 Iff.rfl rfl rfl (fun h2 => ?_) (fun h2 => ?_)
  · refine q_s (pc' := 28) (ls' := [vR t0, vI a1, vI a2, vI a3, vU]) (st' := [vI (-201)]) (g' := q1.2) k19_25 rfl rfl ?_
    exact q_e k19_28 rfl rfl rfl
  · refine q_ldR_n (pc' := 9) k19_8 rfl rfl (by have := (k2 ht0 (by decide)); omega) ?_
    refine q_s (pc' := 10) (ls' := [vR t0, vI a1, vI a2, vI a3, vU]) (st' := [vI a2, vR t0]) (g' := q1.2) k19_9 rfl rfl ?_
    refine q_callI (ls0 := [vR t0, vI a2]) (rest := []) (pc' := 13) rfl k19_10 rfl (hy4 rfl rfl (rcv0 rfl ht0) rfl) rfl rfl hq_14 rfl (fun q3 => ?_)
    refine q_if (P := q3.1 = 0) (t := 25) (pc' := 16) k19_13 Iff.rfl rfl rfl (fun h4 => ?_) (fun h4 => ?_)
    · refine q_s (pc' := 28) (ls' := [vR t0, vI a1, vI a2, vI a3, vU]) (st' := [vI (-201)]) (g' := q3.2) k19_25 rfl rfl ?_
      exact q_e k19_28 rfl rfl rfl
    · refine q_ldR_n (pc' := 17) k19_16 rfl rfl (by have := (k2 ht0 (by decide)); omega) ?_
      refine q_getI (w := 3) (pc' := 20) k19_17 ht0 rfl rfl rfl ?_
      refine q_s (pc' := 22) (ls' := [vR t0, vI a1, vI a2, vI a3, vU]) (st' := [vI 16, vI (q3.2 t0 3)]) (g' := q3.2) k19_20 rfl rfl ?_
      refine q_ic (P := q3.2 t0 3 < 16) (t := 29) (pc' := 25) k19_22 Iff.rfl rfl rfl (fun h5 => ?_) (fun h5 => ?_)
      · refine q_ldR_n (pc' := 30) k19_29 rfl rfl (by have := (k2 ht0 (by decide)); omega) ?_
        refine q_getF (r := t0 + 22) (pc' := 33) k19_30 ht0 rfl (kG_f ht0).2.1 rfl ?_
        refine q_ldR_n (pc' := 34) k19_33 rfl rfl (by have := (k2 ht0 (by decide)); omega) ?_
        refine q_getI (w := 3) (pc' := 37) k19_34 ht0 rfl rfl rfl ?_
        refine q_aald (n := 16) (pc' := 38) rfl k19_37 (kG_f ht0).2.2.2 rfl (t0 + 23 + 2 * (q3.2 t0 3)) (fun h => (kG_e ht0 h.1 h.2).1) (fun h6 => ?_)
        refine q_stR_i (pc' := 40) (ls' := [vR t0, vI a1, vI a2, vI a3, vR (t0 + 23 + 2 * (q3.2 t0 3))]) k19_38 rfl rfl rfl (by have := (k2 (kG_e ht0 h6.1 h6.2).2 (by decide)); omega) rfl ?_
        refine q_ldR_i (pc' := 42) k19_40 rfl rfl (by have := (k2 (kG_e ht0 h6.1 h6.2).2 (by decide)); omega) ?_
        refine q_s (pc' := 43) (ls' := [vR t0, vI a1, vI a2, vI a3, vR (t0 + 23 + 2 * (q3.2 t0 3))]) (st' := [vI a1, vR (t0 + 23 + 2 * (q3.2 t0 3))]) (g' := q3.2) k19_42 rfl rfl ?_
        refine q_putI (w := 1) (pc' := 46) k19_43 (kG_e ht0 h6.1 h6.2).2 rfl rfl rfl ?_
        refine q_ldR_i (pc' := 48) k19_46 rfl rfl (by have := (k2 (kG_e ht0 h6.1 h6.2).2 (by decide)); omega) ?_
        refine q_s (pc' := 49) (ls' := [vR t0, vI a1, vI a2, vI a3, vR (t0 + 23 + 2 * (q3.2 t0 3))]) (st' := [vI a2, vR (t0 + 23 + 2 * (q3.2 t0 3))]) (g' := up q3.2 (t0 + 23 + 2 * (q3.2 t0 3)) 1 a1) k19_48 rfl rfl ?_
        refine q_putI (w := 2) (pc' := 52) k19_49 (kG_e ht0 h6.1 h6.2).2 rfl rfl rfl ?_
        refine q_ldR_i (pc' := 54) k19_52 rfl rfl (by have := (k2 (kG_e ht0 h6.1 h6.2).2 (by decide)); omega) ?_
        refine q_s (pc' := 55) (ls' := [vR t0, vI a1, vI a2, vI a3, vR (t0 + 23 + 2 * (q3.2 t0 3))]) (st' := [vI a3, vR (t0 + 23 + 2 * (q3.2 t0 3))]) (g' := up (up q3.2 (t0 + 23 + 2 * (q3.2 t0 3)) 1 a1) (t0 + 23 + 2 * (q3.2 t0 3)) 2 a2) k19_54 rfl rfl ?_
        refine q_putI (w := 3) (pc' := 58) k19_55 (kG_e ht0 h6.1 h6.2).2 rfl rfl rfl ?_
        refine q_ldR_n (pc' := 59) k19_58 rfl rfl (by have := (k2 ht0 (by decide)); omega) ?_
        refine q_getF (r := t0 + 1) (pc' := 62) k19_59 ht0 rfl (kG_f ht0).1 rfl ?_
        refine q_s (pc' := 63) (ls' := [vR t0, vI a1, vI a2, vI a3, vR (t0 + 23 + 2 * (q3.2 t0 3))]) (st' := [vI a2, vR (t0 + 1)]) (g' := up (up (up q3.2 (t0 + 23 + 2 * (q3.2 t0 3)) 1 a1) (t0 + 23 + 2 * (q3.2 t0 3)) 2 a2) (t0 + 23 + 2 * (q3.2 t0 3)) 3 a3) k19_62 rfl rfl ?_
        refine q_aald (n := 10) (pc' := 64) rfl k19_63 (kG_f ht0).2.2.1 rfl (t0 + 2 + 2 * a2) (fun h => (kG_b ht0 h.1 h.2).1) (fun h7 => ?_)
        refine q_getF (r := t0 + 2 + 2 * a2 + 1) (pc' := 67) k19_64 (kG_b ht0 h7.1 h7.2).2 rfl (kB (kG_b ht0 h7.1 h7.2).2).1 rfl ?_
        refine q_s (pc' := 68) (ls' := [vR t0, vI a1, vI a2, vI a3, vR (t0 + 23 + 2 * (q3.2 t0 3))]) (st' := [vI 0, vR (t0 + 2 + 2 * a2 + 1)]) (g' := up (up (up q3.2 (t0 + 23 + 2 * (q3.2 t0 3)) 1 a1) (t0 + 23 + 2 * (q3.2 t0 3)) 2 a2) (t0 + 23 + 2 * (q3.2 t0 3)) 3 a3) k19_67 rfl rfl ?_
        refine q_ldR_i (pc' := 70) k19_68 rfl rfl (by have := (k2 (kG_e ht0 h6.1 h6.2).2 (by decide)); omega) ?_
        refine q_getF (r := t0 + 23 + 2 * (q3.2 t0 3) + 1) (pc' := 73) k19_70 (kG_e ht0 h6.1 h6.2).2 rfl (kE (kG_e ht0 h6.1 h6.2).2).1 rfl ?_
        refine q_s (pc' := 74) (ls' := [vR t0, vI a1, vI a2, vI a3, vR (t0 + 23 + 2 * (q3.2 t0 3))]) (st' := [vI 0, vR (t0 + 23 + 2 * (q3.2 t0 3) + 1), vI 0, vR (t0 + 2 + 2 * a2 + 1)]) (g' := up (up (up q3.2 (t0 + 23 + 2 * (q3.2 t0 3)) 1 a1) (t0 + 23 + 2 * (q3.2 t0 3)) 2 a2) (t0 + 23 + 2 * (q3.2 t0 3)) 3 a3) k19_73 rfl rfl ?_
        refine q_ldR_n (pc' := 75) k19_74 rfl rfl (by have := (k2 ht0 (by decide)); omega) ?_
        refine q_getF (r := t0 + 1) (pc' := 78) k19_75 ht0 rfl (kG_f ht0).1 rfl ?_
        refine q_s (pc' := 79) (ls' := [vR t0, vI a1, vI a2, vI a3, vR (t0 + 23 + 2 * (q3.2 t0 3))]) (st' := [vI a2, vR (t0 + 1), vI 0, vR (t0 + 23 + 2 * (q3.2 t0 3) + 1), vI 0, vR (t0 + 2 + 2 * a2 + 1)]) (g' := up (up (up q3.2 (t0 + 23 + 2 * (q3.2 t0 3)) 1 a1) (t0 + 23 + 2 * (q3.2 t0 3)) 2 a2) (t0 + 23 + 2 * (q3.2 t0 3)) 3 a3) k19_78 rfl rfl ?_
        refine q_aald (n := 10) (pc' := 80) rfl k19_79 (kG_f ht0).2.2.1 rfl (t0 + 2 + 2 * a2) (fun h => (kG_b ht0 h.1 h.2).1) (fun h8 => ?_)
        refine q_getI (w := 1) (pc' := 83) k19_80 (kG_b ht0 h8.1 h8.2).2 rfl rfl rfl ?_
        refine q_acpy (N := 6) (pc' := 86) rfl k19_83 (kB20 (kG_b ht0 h7.1 h7.2).2) (kE20 (kG_e ht0 h6.1 h6.2).2) (kB (kG_b ht0 h7.1 h7.2).2).2 (kE (kG_e ht0 h6.1 h6.2).2).2 rfl (fun h9 => ?_)
        refine q_ldR_n (pc' := 87) k19_86 rfl rfl (by have := (k2 ht0 (by decide)); omega) ?_
        refine q_s (pc' := 88) (ls' := [vR t0, vI a1, vI a2, vI a3, vR (t0 + 23 + 2 * (q3.2 t0 3))]) (st' := [vR t0, vR t0]) (g' := cpy (up (up (up q3.2 (t0 + 23 + 2 * (q3.2 t0 3)) 1 a1) (t0 + 23 + 2 * (q3.2 t0 3)) 2 a2) (t0 + 23 + 2 * (q3.2 t0 3)) 3 a3) (t0 + 2 + 2 * a2 + 1) 0 (t0 + 23 + 2 * (q3.2 t0 3) + 1) 0 ((up (up (up q3.2 (t0 + 23 + 2 * (q3.2 t0 3)) 1 a1) (t0 + 23 + 2 * (q3.2 t0 3)) 2 a2) (t0 + 23 + 2 * (q3.2 t0 3)) 3 a3) (t0 + 2 + 2 * a2) 1)) k19_87 rfl rfl ?_
        refine q_getI (w := 3) (pc' := 91) k19_88 ht0 rfl rfl rfl ?_
        refine q_s (pc' := 92) (ls' := [vR t0, vI a1, vI a2, vI a3, vR (t0 + 23 + 2 * (q3.2 t0 3))]) (st' := [vI 1, vI ((cpy (up (up (up q3.2 (t0 + 23 + 2 * (q3.2 t0 3)) 1 a1) (t0 + 23 + 2 * (q3.2 t0 3)) 2 a2) (t0 + 23 + 2 * (q3.2 t0 3)) 3 a3) (t0 + 2 + 2 * a2 + 1) 0 (t0 + 23 + 2 * (q3.2 t0 3) + 1) 0 ((up (up (up q3.2 (t0 + 23 + 2 * (q3.2 t0 3)) 1 a1) (t0 + 23 + 2 * (q3.2 t0 3)) 2 a2) (t0 + 23 + 2 * (q3.2 t0 3)) 3 a3) (t0 + 2 + 2 * a2) 1)) t0 3), vR t0]) (g' := cpy (up (up (up q3.2 (t0 + 23 + 2 * (q3.2 t0 3)) 1 a1) (t0 + 23 + 2 * (q3.2 t0 3)) 2 a2) (t0 + 23 + 2 * (q3.2 t0 3)) 3 a3) (t0 + 2 + 2 * a2 + 1) 0 (t0 + 23 + 2 * (q3.2 t0 3) + 1) 0 ((up (up (up q3.2 (t0 + 23 + 2 * (q3.2 t0 3)) 1 a1) (t0 + 23 + 2 * (q3.2 t0 3)) 2 a2) (t0 + 23 + 2 * (q3.2 t0 3)) 3 a3) (t0 + 2 + 2 * a2) 1)) k19_91 rfl rfl ?_
        refine q_s (pc' := 93) (ls' := [vR t0, vI a1, vI a2, vI a3, vR (t0 + 23 + 2 * (q3.2 t0 3))]) (st' := [vI (iw (((cpy (up (up (up q3.2 (t0 + 23 + 2 * (q3.2 t0 3)) 1 a1) (t0 + 23 + 2 * (q3.2 t0 3)) 2 a2) (t0 + 23 + 2 * (q3.2 t0 3)) 3 a3) (t0 + 2 + 2 * a2 + 1) 0 (t0 + 23 + 2 * (q3.2 t0 3) + 1) 0 ((up (up (up q3.2 (t0 + 23 + 2 * (q3.2 t0 3)) 1 a1) (t0 + 23 + 2 * (q3.2 t0 3)) 2 a2) (t0 + 23 + 2 * (q3.2 t0 3)) 3 a3) (t0 + 2 + 2 * a2) 1)) t0 3) + 1)), vR t0]) (g' := cpy (up (up (up q3.2 (t0 + 23 + 2 * (q3.2 t0 3)) 1 a1) (t0 + 23 + 2 * (q3.2 t0 3)) 2 a2) (t0 + 23 + 2 * (q3.2 t0 3)) 3 a3) (t0 + 2 + 2 * a2 + 1) 0 (t0 + 23 + 2 * (q3.2 t0 3) + 1) 0 ((up (up (up q3.2 (t0 + 23 + 2 * (q3.2 t0 3)) 1 a1) (t0 + 23 + 2 * (q3.2 t0 3)) 2 a2) (t0 + 23 + 2 * (q3.2 t0 3)) 3 a3) (t0 + 2 + 2 * a2) 1)) k19_92 rfl rfl ?_
        refine q_putI (w := 3) (pc' := 96) k19_93 ht0 rfl rfl rfl ?_
        refine q_ldR_n (pc' := 97) k19_96 rfl rfl (by have := (k2 ht0 (by decide)); omega) ?_
        refine q_getI (w := 3) (pc' := 100) k19_97 ht0 rfl rfl rfl ?_
        refine q_s (pc' := 101) (ls' := [vR t0, vI a1, vI a2, vI a3, vR (t0 + 23 + 2 * (q3.2 t0 3))]) (st' := [vI 1, vI ((up (cpy (up (up (up q3.2 (t0 + 23 + 2 * (q3.2 t0 3)) 1 a1) (t0 + 23 + 2 * (q3.2 t0 3)) 2 a2) (t0 + 23 + 2 * (q3.2 t0 3)) 3 a3) (t0 + 2 + 2 * a2 + 1) 0 (t0 + 23 + 2 * (q3.2 t0 3) + 1) 0 ((up (up (up q3.2 (t0 + 23 + 2 * (q3.2 t0 3)) 1 a1) (t0 + 23 + 2 * (q3.2 t0 3)) 2 a2) (t0 + 23 + 2 * (q3.2 t0 3)) 3 a3) (t0 + 2 + 2 * a2) 1)) t0 3 (iw (((cpy (up (up (up q3.2 (t0 + 23 + 2 * (q3.2 t0 3)) 1 a1) (t0 + 23 + 2 * (q3.2 t0 3)) 2 a2) (t0 + 23 + 2 * (q3.2 t0 3)) 3 a3) (t0 + 2 + 2 * a2 + 1) 0 (t0 + 23 + 2 * (q3.2 t0 3) + 1) 0 ((up (up (up q3.2 (t0 + 23 + 2 * (q3.2 t0 3)) 1 a1) (t0 + 23 + 2 * (q3.2 t0 3)) 2 a2) (t0 + 23 + 2 * (q3.2 t0 3)) 3 a3) (t0 + 2 + 2 * a2) 1)) t0 3) + 1))) t0 3)]) (g' := up (cpy (up (up (up q3.2 (t0 + 23 + 2 * (q3.2 t0 3)) 1 a1) (t0 + 23 + 2 * (q3.2 t0 3)) 2 a2) (t0 + 23 + 2 * (q3.2 t0 3)) 3 a3) (t0 + 2 + 2 * a2 + 1) 0 (t0 + 23 + 2 * (q3.2 t0 3) + 1) 0 ((up (up (up q3.2 (t0 + 23 + 2 * (q3.2 t0 3)) 1 a1) (t0 + 23 + 2 * (q3.2 t0 3)) 2 a2) (t0 + 23 + 2 * (q3.2 t0 3)) 3 a3) (t0 + 2 + 2 * a2) 1)) t0 3 (iw (((cpy (up (up (up q3.2 (t0 + 23 + 2 * (q3.2 t0 3)) 1 a1) (t0 + 23 + 2 * (q3.2 t0 3)) 2 a2) (t0 + 23 + 2 * (q3.2 t0 3)) 3 a3) (t0 + 2 + 2 * a2 + 1) 0 (t0 + 23 + 2 * (q3.2 t0 3) + 1) 0 ((up (up (up q3.2 (t0 + 23 + 2 * (q3.2 t0 3)) 1 a1) (t0 + 23 + 2 * (q3.2 t0 3)) 2 a2) (t0 + 23 + 2 * (q3.2 t0 3)) 3 a3) (t0 + 2 + 2 * a2) 1)) t0 3) + 1))) k19_100 rfl rfl ?_
        refine q_s (pc' := 102) (ls' := [vR t0, vI a1, vI a2, vI a3, vR (t0 + 23 + 2 * (q3.2 t0 3))]) (st' := [vI (iw (((up (cpy (up (up (up q3.2 (t0 + 23 + 2 * (q3.2 t0 3)) 1 a1) (t0 + 23 + 2 * (q3.2 t0 3)) 2 a2) (t0 + 23 + 2 * (q3.2 t0 3)) 3 a3) (t0 + 2 + 2 * a2 + 1) 0 (t0 + 23 + 2 * (q3.2 t0 3) + 1) 0 ((up (up (up q3.2 (t0 + 23 + 2 * (q3.2 t0 3)) 1 a1) (t0 + 23 + 2 * (q3.2 t0 3)) 2 a2) (t0 + 23 + 2 * (q3.2 t0 3)) 3 a3) (t0 + 2 + 2 * a2) 1)) t0 3 (iw (((cpy (up (up (up q3.2 (t0 + 23 + 2 * (q3.2 t0 3)) 1 a1) (t0 + 23 + 2 * (q3.2 t0 3)) 2 a2) (t0 + 23 + 2 * (q3.2 t0 3)) 3 a3) (t0 + 2 + 2 * a2 + 1) 0 (t0 + 23 + 2 * (q3.2 t0 3) + 1) 0 ((up (up (up q3.2 (t0 + 23 + 2 * (q3.2 t0 3)) 1 a1) (t0 + 23 + 2 * (q3.2 t0 3)) 2 a2) (t0 + 23 + 2 * (q3.2 t0 3)) 3 a3) (t0 + 2 + 2 * a2) 1)) t0 3) + 1))) t0 3) - 1))]) (g' := up (cpy (up (up (up q3.2 (t0 + 23 + 2 * (q3.2 t0 3)) 1 a1) (t0 + 23 + 2 * (q3.2 t0 3)) 2 a2) (t0 + 23 + 2 * (q3.2 t0 3)) 3 a3) (t0 + 2 + 2 * a2 + 1) 0 (t0 + 23 + 2 * (q3.2 t0 3) + 1) 0 ((up (up (up q3.2 (t0 + 23 + 2 * (q3.2 t0 3)) 1 a1) (t0 + 23 + 2 * (q3.2 t0 3)) 2 a2) (t0 + 23 + 2 * (q3.2 t0 3)) 3 a3) (t0 + 2 + 2 * a2) 1)) t0 3 (iw (((cpy (up (up (up q3.2 (t0 + 23 + 2 * (q3.2 t0 3)) 1 a1) (t0 + 23 + 2 * (q3.2 t0 3)) 2 a2) (t0 + 23 + 2 * (q3.2 t0 3)) 3 a3) (t0 + 2 + 2 * a2 + 1) 0 (t0 + 23 + 2 * (q3.2 t0 3) + 1) 0 ((up (up (up q3.2 (t0 + 23 + 2 * (q3.2 t0 3)) 1 a1) (t0 + 23 + 2 * (q3.2 t0 3)) 2 a2) (t0 + 23 + 2 * (q3.2 t0 3)) 3 a3) (t0 + 2 + 2 * a2) 1)) t0 3) + 1))) k19_101 rfl rfl ?_
        exact q_e k19_102 rfl rfl rfl
      · refine q_s (pc' := 28) (ls' := [vR t0, vI a1, vI a2, vI a3, vU]) (st' := [vI (-201)]) (g' := q3.2) k19_25 rfl rfl ?_
        exact q_e k19_28 rfl rfl rfl
set_option maxHeartbeats 4000000 in
theorem jGr_countFrom_eq (L : Nat) (t0 : Int) (a1 : Int) (g : AMem) (ht0 : kin (SH L) t0 = 3) : jGr_countFrom L t0 a1 g = jGr_countFrom_4 L t0 a1 0 0 g := by
  unfold jGr_countFrom
  refine q_s (pc' := 1) (ls' := [vR t0, vI a1, vU, vU]) (st' := [vI 0]) (g' := g) k20_0 rfl rfl ?_
  refine q_s (pc' := 2) (ls' := [vR t0, vI a1, vI 0, vU]) (st' := []) (g' := g) k20_1 rfl rfl ?_
  refine q_s (pc' := 3) (ls' := [vR t0, vI a1, vI 0, vU]) (st' := [vI 0]) (g' := g) k20_2 rfl rfl ?_
  refine q_s (pc' := 4) (ls' := [vR t0, vI a1, vI 0, vI 0]) (st' := []) (g' := g) k20_3 rfl rfl ?_
  rfl
set_option maxHeartbeats 4000000 in
theorem jGr_countFrom_4_eq (L : Nat) (t0 : Int) (l1 : Int) (l2 : Int) (l3 : Int) (g : AMem) (ht0 : kin (SH L) t0 = 3) : jGr_countFrom_4 L t0 l1 l2 l3 g = if g t0 3 ≤ l3 then (some (l2, g)) else (if 0 ≤ l3 ∧ l3 < 16 then (if g (t0 + 23 + 2 * l3) 1 ≠ l1 then (jGr_countFrom_4 L t0 l1 (iw (l2 + 0)) (iw (l3 + 1)) g) else (jGr_countFrom_4 L t0 l1 (iw (l2 + 1)) (iw (l3 + 1)) g)) else none) := by
  unfold jGr_countFrom_4
  refine q_s (pc' := 5) (ls' := [vR t0, vI l1, vI l2, vI l3]) (st' := [vI l3]) (g' := g) k20_4 rfl rfl ?_
  refine q_ldR_n (pc' := 6) k20_5 rfl rfl (by have := (k2 ht0 (by decide)); omega) ?_
  refine q_getI (w := 3) (pc' := 9) k20_6 ht0 rfl rfl rfl ?_
  refine q_ic (P := g t0 3 ≤ l3) (t := 39) (pc' := 12) k20_9 Iff.rfl rfl rfl (fun h1 => ?_) (fun h1 => ?_)
  · refine q_s (pc' := 40) (ls' := [vR t0, vI l1, vI l2, vI l3]) (st' := [vI l2]) (g' := g) k20_39 rfl rfl ?_
    exact q_e k20_40 rfl rfl rfl
  · refine q_s (pc' := 13) (ls' := [vR t0, vI l1, vI l2, vI l3]) (st' := [vI l2]) (g' := g) k20_12 rfl rfl ?_
    refine q_ldR_n (pc' := 14) k20_13 rfl rfl (by have := (k2 ht0 (by decide)); omega) ?_
    refine q_getF (r := t0 + 22) (pc' := 17) k20_14 ht0 rfl (kG_f ht0).2.1 rfl ?_
    refine q_s (pc' := 18) (ls' := [vR t0, vI l1, vI l2, vI l3]) (st' := [vI l3, vR (t0 + 22), vI l2]) (g' := g) k20_17 rfl rfl ?_
    refine q_aald (n := 16) (pc' := 19) rfl k20_18 (kG_f ht0).2.2.2 rfl (t0 + 23 + 2 * l3) (fun h => (kG_e ht0 h.1 h.2).1) (fun h2 => ?_)
    refine q_getI (w := 1) (pc' := 22) k20_19 (kG_e ht0 h2.1 h2.2).2 rfl rfl rfl ?_
    refine q_s (pc' := 23) (ls' := [vR t0, vI l1, vI l2, vI l3]) (st' := [vI l1, vI (g (t0 + 23 + 2 * l3) 1), vI l2]) (g' := g) k20_22 rfl rfl ?_
    refine q_ic (P := g (t0 + 23 + 2 * l3) 1 ≠ l1) (t := 30) (pc' := 26) k20_23 Iff.rfl rfl rfl (fun h3 => ?_) (fun h3 => ?_)
    · refine q_s (pc' := 31) (ls' := [vR t0, vI l1, vI l2, vI l3]) (st' := [vI 0, vI l2]) (g' := g) k20_30 rfl rfl ?_
      refine q_s (pc' := 32) (ls' := [vR t0, vI l1, vI l2, vI l3]) (st' := [vI (iw (l2 + 0))]) (g' := g) k20_31 rfl rfl ?_
      refine q_s (pc' := 33) (ls' := [vR t0, vI l1, vI (iw (l2 + 0)), vI l3]) (st' := []) (g' := g) k20_32 rfl rfl ?_
      refine q_s (pc' := 36) (ls' := [vR t0, vI l1, vI (iw (l2 + 0)), vI (iw (l3 + 1))]) (st' := []) (g' := g) k20_33 rfl rfl ?_
      refine q_s (pc' := 4) (ls' := [vR t0, vI l1, vI (iw (l2 + 0)), vI (iw (l3 + 1))]) (st' := []) (g' := g) k20_36 rfl rfl ?_
      rfl
    · refine q_s (pc' := 27) (ls' := [vR t0, vI l1, vI l2, vI l3]) (st' := [vI 1, vI l2]) (g' := g) k20_26 rfl rfl ?_
      refine q_s (pc' := 31) (ls' := [vR t0, vI l1, vI l2, vI l3]) (st' := [vI 1, vI l2]) (g' := g) k20_27 rfl rfl ?_
      refine q_s (pc' := 32) (ls' := [vR t0, vI l1, vI l2, vI l3]) (st' := [vI (iw (l2 + 1))]) (g' := g) k20_31 rfl rfl ?_
      refine q_s (pc' := 33) (ls' := [vR t0, vI l1, vI (iw (l2 + 1)), vI l3]) (st' := []) (g' := g) k20_32 rfl rfl ?_
      refine q_s (pc' := 36) (ls' := [vR t0, vI l1, vI (iw (l2 + 1)), vI (iw (l3 + 1))]) (st' := []) (g' := g) k20_33 rfl rfl ?_
      refine q_s (pc' := 4) (ls' := [vR t0, vI l1, vI (iw (l2 + 1)), vI (iw (l3 + 1))]) (st' := []) (g' := g) k20_36 rfl rfl ?_
      rfl
set_option maxHeartbeats 4000000 in
theorem jGr_countTo_eq (L : Nat) (t0 : Int) (a1 : Int) (g : AMem) (ht0 : kin (SH L) t0 = 3) : jGr_countTo L t0 a1 g = jGr_countTo_4 L t0 a1 0 0 g := by
  unfold jGr_countTo
  refine q_s (pc' := 1) (ls' := [vR t0, vI a1, vU, vU]) (st' := [vI 0]) (g' := g) k21_0 rfl rfl ?_
  refine q_s (pc' := 2) (ls' := [vR t0, vI a1, vI 0, vU]) (st' := []) (g' := g) k21_1 rfl rfl ?_
  refine q_s (pc' := 3) (ls' := [vR t0, vI a1, vI 0, vU]) (st' := [vI 0]) (g' := g) k21_2 rfl rfl ?_
  refine q_s (pc' := 4) (ls' := [vR t0, vI a1, vI 0, vI 0]) (st' := []) (g' := g) k21_3 rfl rfl ?_
  rfl
set_option maxHeartbeats 4000000 in
theorem jGr_countTo_4_eq (L : Nat) (t0 : Int) (l1 : Int) (l2 : Int) (l3 : Int) (g : AMem) (ht0 : kin (SH L) t0 = 3) : jGr_countTo_4 L t0 l1 l2 l3 g = if g t0 3 ≤ l3 then (some (l2, g)) else (if 0 ≤ l3 ∧ l3 < 16 then (if g (t0 + 23 + 2 * l3) 2 ≠ l1 then (jGr_countTo_4 L t0 l1 (iw (l2 + 0)) (iw (l3 + 1)) g) else (jGr_countTo_4 L t0 l1 (iw (l2 + 1)) (iw (l3 + 1)) g)) else none) := by
  unfold jGr_countTo_4
  refine q_s (pc' := 5) (ls' := [vR t0, vI l1, vI l2, vI l3]) (st' := [vI l3]) (g' := g) k21_4 rfl rfl ?_
  refine q_ldR_n (pc' := 6) k21_5 rfl rfl (by have := (k2 ht0 (by decide)); omega) ?_
  refine q_getI (w := 3) (pc' := 9) k21_6 ht0 rfl rfl rfl ?_
  refine q_ic (P := g t0 3 ≤ l3) (t := 39) (pc' := 12) k21_9 Iff.rfl rfl rfl (fun h1 => ?_) (fun h1 => ?_)
  · refine q_s (pc' := 40) (ls' := [vR t0, vI l1, vI l2, vI l3]) (st' := [vI l2]) (g' := g) k21_39 rfl rfl ?_
    exact q_e k21_40 rfl rfl rfl
  · refine q_s (pc' := 13) (ls' := [vR t0, vI l1, vI l2, vI l3]) (st' := [vI l2]) (g' := g) k21_12 rfl rfl ?_
    refine q_ldR_n (pc' := 14) k21_13 rfl rfl (by have := (k2 ht0 (by decide)); omega) ?_
    refine q_getF (r := t0 + 22) (pc' := 17) k21_14 ht0 rfl (kG_f ht0).2.1 rfl ?_
    refine q_s (pc' := 18) (ls' := [vR t0, vI l1, vI l2, vI l3]) (st' := [vI l3, vR (t0 + 22), vI l2]) (g' := g) k21_17 rfl rfl ?_
    refine q_aald (n := 16) (pc' := 19) rfl k21_18 (kG_f ht0).2.2.2 rfl (t0 + 23 + 2 * l3) (fun h => (kG_e ht0 h.1 h.2).1) (fun h2 => ?_)
    refine q_getI (w := 2) (pc' := 22) k21_19 (kG_e ht0 h2.1 h2.2).2 rfl rfl rfl ?_
    refine q_s (pc' := 23) (ls' := [vR t0, vI l1, vI l2, vI l3]) (st' := [vI l1, vI (g (t0 + 23 + 2 * l3) 2), vI l2]) (g' := g) k21_22 rfl rfl ?_
    refine q_ic (P := g (t0 + 23 + 2 * l3) 2 ≠ l1) (t := 30) (pc' := 26) k21_23 Iff.rfl rfl rfl (fun h3 => ?_) (fun h3 => ?_)
    · refine q_s (pc' := 31) (ls' := [vR t0, vI l1, vI l2, vI l3]) (st' := [vI 0, vI l2]) (g' := g) k21_30 rfl rfl ?_
      refine q_s (pc' := 32) (ls' := [vR t0, vI l1, vI l2, vI l3]) (st' := [vI (iw (l2 + 0))]) (g' := g) k21_31 rfl rfl ?_
      refine q_s (pc' := 33) (ls' := [vR t0, vI l1, vI (iw (l2 + 0)), vI l3]) (st' := []) (g' := g) k21_32 rfl rfl ?_
      refine q_s (pc' := 36) (ls' := [vR t0, vI l1, vI (iw (l2 + 0)), vI (iw (l3 + 1))]) (st' := []) (g' := g) k21_33 rfl rfl ?_
      refine q_s (pc' := 4) (ls' := [vR t0, vI l1, vI (iw (l2 + 0)), vI (iw (l3 + 1))]) (st' := []) (g' := g) k21_36 rfl rfl ?_
      rfl
    · refine q_s (pc' := 27) (ls' := [vR t0, vI l1, vI l2, vI l3]) (st' := [vI 1, vI l2]) (g' := g) k21_26 rfl rfl ?_
      refine q_s (pc' := 31) (ls' := [vR t0, vI l1, vI l2, vI l3]) (st' := [vI 1, vI l2]) (g' := g) k21_27 rfl rfl ?_
      refine q_s (pc' := 32) (ls' := [vR t0, vI l1, vI l2, vI l3]) (st' := [vI (iw (l2 + 1))]) (g' := g) k21_31 rfl rfl ?_
      refine q_s (pc' := 33) (ls' := [vR t0, vI l1, vI (iw (l2 + 1)), vI l3]) (st' := []) (g' := g) k21_32 rfl rfl ?_
      refine q_s (pc' := 36) (ls' := [vR t0, vI l1, vI (iw (l2 + 1)), vI (iw (l3 + 1))]) (st' := []) (g' := g) k21_33 rfl rfl ?_
      refine q_s (pc' := 4) (ls' := [vR t0, vI l1, vI (iw (l2 + 1)), vI (iw (l3 + 1))]) (st' := []) (g' := g) k21_36 rfl rfl ?_
      rfl
set_option maxHeartbeats 4000000 in
theorem jGr_whereStepsGo_eq (L : Nat) (t0 : Int) (a1 : Int) (g : AMem) (ht0 : kin (SH L) t0 = 3) : jGr_whereStepsGo L t0 a1 g = if 0 ≤ a1 ∧ a1 < 16 then ((jGr_countFrom L t0 (g (t0 + 23 + 2 * a1) 1) g).bind (fun q2 => if q2.1 ≠ 1 then (if 0 ≤ a1 ∧ a1 < 16 then ((jGr_countTo L t0 (q2.2 (t0 + 23 + 2 * a1) 2) q2.2).bind (fun q5 => if q5.1 ≠ 1 then (some (2, q5.2)) else (some (1, q5.2)))) else none) else (some (0, q2.2)))) else none := by
  unfold jGr_whereStepsGo
  refine q_ldR_n (pc' := 1) k22_0 rfl rfl (by have := (k2 ht0 (by decide)); omega) ?_
  refine q_ldR_n (pc' := 2) k22_1 rfl rfl (by have := (k2 ht0 (by decide)); omega) ?_
  refine q_getF (r := t0 + 22) (pc' := 5) k22_2 ht0 rfl (kG_f ht0).2.1 rfl ?_
  refine q_s (pc' := 6) (ls' := [vR t0, vI a1]) (st' := [vI a1, vR (t0 + 22), vR t0]) (g' := g) k22_5 rfl rfl ?_
  refine q_aald (n := 16) (pc' := 7) rfl k22_6 (kG_f ht0).2.2.2 rfl (t0 + 23 + 2 * a1) (fun h => (kG_e ht0 h.1 h.2).1) (fun h1 => ?_)
  refine q_getI (w := 1) (pc' := 10) k22_7 (kG_e ht0 h1.1 h1.2).2 rfl rfl rfl ?_
  refine q_callI (ls0 := [vR t0, vI (g (t0 + 23 + 2 * a1) 1), vU, vU]) (rest := []) (pc' := 13) rfl k22_10 rfl (hy4 rfl rfl (rcv0 rfl ht0) rfl) rfl rfl hq_20 rfl (fun q2 => ?_)
  refine q_s (pc' := 14) (ls' := [vR t0, vI a1]) (st' := [vI 1, vI q2.1]) (g' := q2.2) k22_13 rfl rfl ?_
  refine q_ic (P := q2.1 ≠ 1) (t := 19) (pc' := 17) k22_14 Iff.rfl rfl rfl (fun h3 => ?_) (fun h3 => ?_)
  · refine q_ldR_n (pc' := 20) k22_19 rfl rfl (by have := (k2 ht0 (by decide)); omega) ?_
    refine q_ldR_n (pc' := 21) k22_20 rfl rfl (by have := (k2 ht0 (by decide)); omega) ?_
    refine q_getF (r := t0 + 22) (pc' := 24) k22_21 ht0 rfl (kG_f ht0).2.1 rfl ?_
    refine q_s (pc' := 25) (ls' := [vR t0, vI a1]) (st' := [vI a1, vR (t0 + 22), vR t0]) (g' := q2.2) k22_24 rfl rfl ?_
    refine q_aald (n := 16) (pc' := 26) rfl k22_25 (kG_f ht0).2.2.2 rfl (t0 + 23 + 2 * a1) (fun h => (kG_e ht0 h.1 h.2).1) (fun h4 => ?_)
    refine q_getI (w := 2) (pc' := 29) k22_26 (kG_e ht0 h4.1 h4.2).2 rfl rfl rfl ?_
    refine q_callI (ls0 := [vR t0, vI (q2.2 (t0 + 23 + 2 * a1) 2), vU, vU]) (rest := []) (pc' := 32) rfl k22_29 rfl (hy4 rfl rfl (rcv0 rfl ht0) rfl) rfl rfl hq_21 rfl (fun q5 => ?_)
    refine q_s (pc' := 33) (ls' := [vR t0, vI a1]) (st' := [vI 1, vI q5.1]) (g' := q5.2) k22_32 rfl rfl ?_
    refine q_ic (P := q5.1 ≠ 1) (t := 40) (pc' := 36) k22_33 Iff.rfl rfl rfl (fun h6 => ?_) (fun h6 => ?_)
    · refine q_s (pc' := 41) (ls' := [vR t0, vI a1]) (st' := [vI 2]) (g' := q5.2) k22_40 rfl rfl ?_
      exact q_e k22_41 rfl rfl rfl
    · refine q_s (pc' := 37) (ls' := [vR t0, vI a1]) (st' := [vI 1]) (g' := q5.2) k22_36 rfl rfl ?_
      refine q_s (pc' := 41) (ls' := [vR t0, vI a1]) (st' := [vI 1]) (g' := q5.2) k22_37 rfl rfl ?_
      exact q_e k22_41 rfl rfl rfl
  · refine q_s (pc' := 18) (ls' := [vR t0, vI a1]) (st' := [vI 0]) (g' := q2.2) k22_17 rfl rfl ?_
    exact q_e k22_18 rfl rfl rfl
set_option maxHeartbeats 4000000 in
theorem jHo_look_eq (L : Nat) (t1 : Int) (t2 : Int) (g : AMem) (ht1 : kin (SH L) t1 = 0) (ht2 : kin (SH L) t2 = 2) : jHo_look L t1 t2 g = some (up (up (up g 116 0 (t1 + 1)) 116 1 (t2 + 1)) 116 2 ((up (up g 116 0 (t1 + 1)) 116 1 (t2 + 1)) t1 1)) := by
  unfold jHo_look
  refine q_s (pc' := 1) (ls' := [vR 116, vR t1, vR t2]) (st' := [vR 116]) (g' := g) k24_0 rfl rfl ?_
  refine q_ldR_n (pc' := 2) k24_1 rfl rfl (by have := (k2 ht1 (by decide)); omega) ?_
  refine q_getF (r := t1 + 1) (pc' := 5) k24_2 ht1 rfl (kB ht1).1 rfl ?_
  refine q_putM (w := 0) (pc' := 8) k24_5 rfl rfl rfl rfl ?_
  refine q_s (pc' := 9) (ls' := [vR 116, vR t1, vR t2]) (st' := [vR 116]) (g' := up g 116 0 (t1 + 1)) k24_8 rfl rfl ?_
  refine q_ldR_n (pc' := 10) k24_9 rfl rfl (by have := (k2 ht2 (by decide)); omega) ?_
  refine q_getF (r := t2 + 1) (pc' := 13) k24_10 ht2 rfl (kE ht2).1 rfl ?_
  refine q_putM (w := 1) (pc' := 16) k24_13 rfl rfl rfl rfl ?_
  refine q_s (pc' := 17) (ls' := [vR 116, vR t1, vR t2]) (st' := [vR 116]) (g' := up (up g 116 0 (t1 + 1)) 116 1 (t2 + 1)) k24_16 rfl rfl ?_
  refine q_ldR_n (pc' := 18) k24_17 rfl rfl (by have := (k2 ht1 (by decide)); omega) ?_
  refine q_getI (w := 1) (pc' := 21) k24_18 ht1 rfl rfl rfl ?_
  refine q_putI (w := 2) (pc' := 24) k24_21 rfl rfl rfl rfl ?_
  exact q_e k24_24 rfl rfl rfl
set_option maxHeartbeats 4000000 in
theorem jHo_isSet_eq (L : Nat) (a1 : Int) (g : AMem) : jHo_isSet L a1 g = if kin (SH L) (g 116 1) = 20 then (if 0 ≤ a1 ∧ a1 < aln (SH L) (g 116 1) then (if 0 ≤ g (g 116 1) a1 then (some (0, g)) else (some (1, g))) else none) else none := by
  unfold jHo_isSet
  refine q_s (pc' := 1) (ls' := [vR 116, vI a1]) (st' := [vR 116]) (g' := g) k25_0 rfl rfl ?_
  refine q_getM (w := 1) (c := 20) (pc' := 4) rfl k25_1 rfl rfl rfl rfl rfl (fun h1 => ?_)
  refine q_s (pc' := 5) (ls' := [vR 116, vI a1]) (st' := [vI a1, vR (g 116 1)]) (g' := g) k25_4 rfl rfl ?_
  refine q_iald (n := aln (SH L) (g 116 1)) (pc' := 6) rfl k25_5 rfl rfl (fun h2 => ?_)
  refine q_if (P := 0 ≤ g (g 116 1) a1) (t := 13) (pc' := 9) k25_6 Iff.rfl rfl rfl (fun h3 => ?_) (fun h3 => ?_)
  · refine q_s (pc' := 14) (ls' := [vR 116, vI a1]) (st' := [vI 0]) (g' := g) k25_13 rfl rfl ?_
    exact q_e k25_14 rfl rfl rfl
  · refine q_s (pc' := 10) (ls' := [vR 116, vI a1]) (st' := [vI 1]) (g' := g) k25_9 rfl rfl ?_
    refine q_s (pc' := 14) (ls' := [vR 116, vI a1]) (st' := [vI 1]) (g' := g) k25_10 rfl rfl ?_
    exact q_e k25_14 rfl rfl rfl
set_option maxHeartbeats 4000000 in
theorem jHo_isOpen_eq (L : Nat) (a1 : Int) (g : AMem) : jHo_isOpen L a1 g = if kin (SH L) (g 116 1) = 20 then (if 0 ≤ a1 ∧ a1 < aln (SH L) (g 116 1) then (if g (g 116 1) a1 < 0 then (some (0, g)) else (if kin (SH L) (g 116 1) = 20 then (if 0 ≤ a1 ∧ a1 < aln (SH L) (g 116 1) then (if kin (SH L) (g 116 0) = 20 then (if 0 ≤ a1 ∧ a1 < aln (SH L) (g 116 0) then (if g (g 116 1) a1 = g (g 116 0) a1 then (some (0, g)) else (some (1, g))) else none) else none) else none) else none)) else none) else none := by
  unfold jHo_isOpen
  refine q_s (pc' := 1) (ls' := [vR 116, vI a1]) (st' := [vR 116]) (g' := g) k26_0 rfl rfl ?_
  refine q_getM (w := 1) (c := 20) (pc' := 4) rfl k26_1 rfl rfl rfl rfl rfl (fun h1 => ?_)
  refine q_s (pc' := 5) (ls' := [vR 116, vI a1]) (st' := [vI a1, vR (g 116 1)]) (g' := g) k26_4 rfl rfl ?_
  refine q_iald (n := aln (SH L) (g 116 1)) (pc' := 6) rfl k26_5 rfl rfl (fun h2 => ?_)
  refine q_if (P := g (g 116 1) a1 < 0) (t := 28) (pc' := 9) k26_6 Iff.rfl rfl rfl (fun h3 => ?_) (fun h3 => ?_)
  · refine q_s (pc' := 29) (ls' := [vR 116, vI a1]) (st' := [vI 0]) (g' := g) k26_28 rfl rfl ?_
    exact q_e k26_29 rfl rfl rfl
  · refine q_s (pc' := 10) (ls' := [vR 116, vI a1]) (st' := [vR 116]) (g' := g) k26_9 rfl rfl ?_
    refine q_getM (w := 1) (c := 20) (pc' := 13) rfl k26_10 rfl rfl rfl rfl rfl (fun h4 => ?_)
    refine q_s (pc' := 14) (ls' := [vR 116, vI a1]) (st' := [vI a1, vR (g 116 1)]) (g' := g) k26_13 rfl rfl ?_
    refine q_iald (n := aln (SH L) (g 116 1)) (pc' := 15) rfl k26_14 rfl rfl (fun h5 => ?_)
    refine q_s (pc' := 16) (ls' := [vR 116, vI a1]) (st' := [vR 116, vI (g (g 116 1) a1)]) (g' := g) k26_15 rfl rfl ?_
    refine q_getM (w := 0) (c := 20) (pc' := 19) rfl k26_16 rfl rfl rfl rfl rfl (fun h6 => ?_)
    refine q_s (pc' := 20) (ls' := [vR 116, vI a1]) (st' := [vI a1, vR (g 116 0), vI (g (g 116 1) a1)]) (g' := g) k26_19 rfl rfl ?_
    refine q_iald (n := aln (SH L) (g 116 0)) (pc' := 21) rfl k26_20 rfl rfl (fun h7 => ?_)
    refine q_ic (P := g (g 116 1) a1 = g (g 116 0) a1) (t := 28) (pc' := 24) k26_21 Iff.rfl rfl rfl (fun h8 => ?_) (fun h8 => ?_)
    · refine q_s (pc' := 29) (ls' := [vR 116, vI a1]) (st' := [vI 0]) (g' := g) k26_28 rfl rfl ?_
      exact q_e k26_29 rfl rfl rfl
    · refine q_s (pc' := 25) (ls' := [vR 116, vI a1]) (st' := [vI 1]) (g' := g) k26_24 rfl rfl ?_
      refine q_s (pc' := 29) (ls' := [vR 116, vI a1]) (st' := [vI 1]) (g' := g) k26_25 rfl rfl ?_
      exact q_e k26_29 rfl rfl rfl
set_option maxHeartbeats 4000000 in
theorem jHo_involved_eq (L : Nat) (a1 : Int) (g : AMem) : jHo_involved L a1 g = if g 116 2 ≤ iw (a1 - a1.tdiv 6 * 6) then (some ((-1), g)) else (if kin (SH L) (g 116 1) = 20 then (if 0 ≤ iw (a1 - a1.tdiv 6 * 6) ∧ iw (a1 - a1.tdiv 6 * 6) < aln (SH L) (g 116 1) then (if kin (SH L) (g 116 0) = 20 then (if 0 ≤ iw (a1 - a1.tdiv 6 * 6) ∧ iw (a1 - a1.tdiv 6 * 6) < aln (SH L) (g 116 0) then (if g (g 116 1) (iw (a1 - a1.tdiv 6 * 6)) ≠ g (g 116 0) (iw (a1 - a1.tdiv 6 * 6)) then (if 6 ≤ a1 then (if kin (SH L) (g 116 1) = 20 then (if 0 ≤ iw (a1 - a1.tdiv 6 * 6) ∧ iw (a1 - a1.tdiv 6 * 6) < aln (SH L) (g 116 1) then (some (g (g 116 1) (iw (a1 - a1.tdiv 6 * 6)), g)) else none) else none) else (if kin (SH L) (g 116 0) = 20 then (if 0 ≤ iw (a1 - a1.tdiv 6 * 6) ∧ iw (a1 - a1.tdiv 6 * 6) < aln (SH L) (g 116 0) then (some (g (g 116 0) (iw (a1 - a1.tdiv 6 * 6)), g)) else none) else none)) else (some ((-1), g))) else none) else none) else none) else none) := by
  unfold jHo_involved
  refine q_s (pc' := 1) (ls' := [vR 116, vI a1, vU]) (st' := [vI a1]) (g' := g) k27_0 rfl rfl ?_
  refine q_s (pc' := 3) (ls' := [vR 116, vI a1, vU]) (st' := [vI 6, vI a1]) (g' := g) k27_1 rfl rfl ?_
  refine q_s (pc' := 4) (ls' := [vR 116, vI a1, vU]) (st' := [vI (iw (a1 - a1.tdiv 6 * 6))]) (g' := g) k27_3 rfl rfl ?_
  refine q_s (pc' := 5) (ls' := [vR 116, vI a1, vI (iw (a1 - a1.tdiv 6 * 6))]) (st' := []) (g' := g) k27_4 rfl rfl ?_
  refine q_s (pc' := 6) (ls' := [vR 116, vI a1, vI (iw (a1 - a1.tdiv 6 * 6))]) (st' := [vI (iw (a1 - a1.tdiv 6 * 6))]) (g' := g) k27_5 rfl rfl ?_
  refine q_s (pc' := 7) (ls' := [vR 116, vI a1, vI (iw (a1 - a1.tdiv 6 * 6))]) (st' := [vR 116, vI (iw (a1 - a1.tdiv 6 * 6))]) (g' := g) k27_6 rfl rfl ?_
  refine q_getI (w := 2) (pc' := 10) k27_7 rfl rfl rfl rfl ?_
  refine q_ic (P := g 116 2 ≤ iw (a1 - a1.tdiv 6 * 6)) (t := 28) (pc' := 13) k27_10 Iff.rfl rfl rfl (fun h1 => ?_) (fun h1 => ?_)
  · refine q_s (pc' := 29) (ls' := [vR 116, vI a1, vI (iw (a1 - a1.tdiv 6 * 6))]) (st' := [vI (-1)]) (g' := g) k27_28 rfl rfl ?_
    exact q_e k27_29 rfl rfl rfl
  · refine q_s (pc' := 14) (ls' := [vR 116, vI a1, vI (iw (a1 - a1.tdiv 6 * 6))]) (st' := [vR 116]) (g' := g) k27_13 rfl rfl ?_
    refine q_getM (w := 1) (c := 20) (pc' := 17) rfl k27_14 rfl rfl rfl rfl rfl (fun h2 => ?_)
    refine q_s (pc' := 18) (ls' := [vR 116, vI a1, vI (iw (a1 - a1.tdiv 6 * 6))]) (st' := [vI (iw (a1 - a1.tdiv 6 * 6)), vR (g 116 1)]) (g' := g) k27_17 rfl rfl ?_
    refine q_iald (n := aln (SH L) (g 116 1)) (pc' := 19) rfl k27_18 rfl rfl (fun h3 => ?_)
    refine q_s (pc' := 20) (ls' := [vR 116, vI a1, vI (iw (a1 - a1.tdiv 6 * 6))]) (st' := [vR 116, vI (g (g 116 1) (iw (a1 - a1.tdiv 6 * 6)))]) (g' := g) k27_19 rfl rfl ?_
    refine q_getM (w := 0) (c := 20) (pc' := 23) rfl k27_20 rfl rfl rfl rfl rfl (fun h4 => ?_)
    refine q_s (pc' := 24) (ls' := [vR 116, vI a1, vI (iw (a1 - a1.tdiv 6 * 6))]) (st' := [vI (iw (a1 - a1.tdiv 6 * 6)), vR (g 116 0), vI (g (g 116 1) (iw (a1 - a1.tdiv 6 * 6)))]) (g' := g) k27_23 rfl rfl ?_
    refine q_iald (n := aln (SH L) (g 116 0)) (pc' := 25) rfl k27_24 rfl rfl (fun h5 => ?_)
    refine q_ic (P := g (g 116 1) (iw (a1 - a1.tdiv 6 * 6)) ≠ g (g 116 0) (iw (a1 - a1.tdiv 6 * 6))) (t := 30) (pc' := 28) k27_25 Iff.rfl rfl rfl (fun h6 => ?_) (fun h6 => ?_)
    · refine q_s (pc' := 31) (ls' := [vR 116, vI a1, vI (iw (a1 - a1.tdiv 6 * 6))]) (st' := [vI a1]) (g' := g) k27_30 rfl rfl ?_
      refine q_s (pc' := 33) (ls' := [vR 116, vI a1, vI (iw (a1 - a1.tdiv 6 * 6))]) (st' := [vI 6, vI a1]) (g' := g) k27_31 rfl rfl ?_
      refine q_ic (P := 6 ≤ a1) (t := 45) (pc' := 36) k27_33 Iff.rfl rfl rfl (fun h7 => ?_) (fun h7 => ?_)
      · refine q_s (pc' := 46) (ls' := [vR 116, vI a1, vI (iw (a1 - a1.tdiv 6 * 6))]) (st' := [vR 116]) (g' := g) k27_45 rfl rfl ?_
        refine q_getM (w := 1) (c := 20) (pc' := 49) rfl k27_46 rfl rfl rfl rfl rfl (fun h8 => ?_)
        refine q_s (pc' := 50) (ls' := [vR 116, vI a1, vI (iw (a1 - a1.tdiv 6 * 6))]) (st' := [vI (iw (a1 - a1.tdiv 6 * 6)), vR (g 116 1)]) (g' := g) k27_49 rfl rfl ?_
        refine q_iald (n := aln (SH L) (g 116 1)) (pc' := 51) rfl k27_50 rfl rfl (fun h9 => ?_)
        exact q_e k27_51 rfl rfl rfl
      · refine q_s (pc' := 37) (ls' := [vR 116, vI a1, vI (iw (a1 - a1.tdiv 6 * 6))]) (st' := [vR 116]) (g' := g) k27_36 rfl rfl ?_
        refine q_getM (w := 0) (c := 20) (pc' := 40) rfl k27_37 rfl rfl rfl rfl rfl (fun h10 => ?_)
        refine q_s (pc' := 41) (ls' := [vR 116, vI a1, vI (iw (a1 - a1.tdiv 6 * 6))]) (st' := [vI (iw (a1 - a1.tdiv 6 * 6)), vR (g 116 0)]) (g' := g) k27_40 rfl rfl ?_
        refine q_iald (n := aln (SH L) (g 116 0)) (pc' := 42) rfl k27_41 rfl rfl (fun h11 => ?_)
        refine q_s (pc' := 51) (ls' := [vR 116, vI a1, vI (iw (a1 - a1.tdiv 6 * 6))]) (st' := [vI (g (g 116 0) (iw (a1 - a1.tdiv 6 * 6)))]) (g' := g) k27_42 rfl rfl ?_
        exact q_e k27_51 rfl rfl rfl
    · refine q_s (pc' := 29) (ls' := [vR 116, vI a1, vI (iw (a1 - a1.tdiv 6 * 6))]) (st' := [vI (-1)]) (g' := g) k27_28 rfl rfl ?_
      exact q_e k27_29 rfl rfl rfl
set_option maxHeartbeats 4000000 in
theorem jRg_areAcross_eq (L : Nat) (a0 : Int) (a1 : Int) (g : AMem) : jRg_areAcross L a0 a1 g = if a0 = a1 then (some (0, g)) else ((jRg_shareByte L a0 a1 g).bind (fun q2 => if q2.1 = 0 then (some (0, q2.2)) else (some (1, q2.2)))) := by
  unfold jRg_areAcross
  refine q_s (pc' := 1) (ls' := [vI a0, vI a1]) (st' := [vI a0]) (g' := g) k28_0 rfl rfl ?_
  refine q_s (pc' := 2) (ls' := [vI a0, vI a1]) (st' := [vI a1, vI a0]) (g' := g) k28_1 rfl rfl ?_
  refine q_ic (P := a0 = a1) (t := 17) (pc' := 5) k28_2 Iff.rfl rfl rfl (fun h1 => ?_) (fun h1 => ?_)
  · refine q_s (pc' := 18) (ls' := [vI a0, vI a1]) (st' := [vI 0]) (g' := g) k28_17 rfl rfl ?_
    exact q_e k28_18 rfl rfl rfl
  · refine q_s (pc' := 6) (ls' := [vI a0, vI a1]) (st' := [vI a0]) (g' := g) k28_5 rfl rfl ?_
    refine q_s (pc' := 7) (ls' := [vI a0, vI a1]) (st' := [vI a1, vI a0]) (g' := g) k28_6 rfl rfl ?_
    refine q_callI (ls0 := [vI a0, vI a1]) (rest := []) (pc' := 10) rfl k28_7 rfl (hy4 rfl rfl rfl rfl) rfl rfl hq_3 rfl (fun q2 => ?_)
    refine q_if (P := q2.1 = 0) (t := 17) (pc' := 13) k28_10 Iff.rfl rfl rfl (fun h3 => ?_) (fun h3 => ?_)
    · refine q_s (pc' := 18) (ls' := [vI a0, vI a1]) (st' := [vI 0]) (g' := q2.2) k28_17 rfl rfl ?_
      exact q_e k28_18 rfl rfl rfl
    · refine q_s (pc' := 14) (ls' := [vI a0, vI a1]) (st' := [vI 1]) (g' := q2.2) k28_13 rfl rfl ?_
      refine q_s (pc' := 18) (ls' := [vI a0, vI a1]) (st' := [vI 1]) (g' := q2.2) k28_14 rfl rfl ?_
      exact q_e k28_18 rfl rfl rfl
set_option maxHeartbeats 4000000 in
theorem jHo_isClear_eq (L : Nat) (g : AMem) : jHo_isClear L g = jHo_isClear_2 L 0 vU vU vU g := by
  unfold jHo_isClear
  refine q_s (pc' := 1) (ls' := [vR 116, vU, vU, vU, vU]) (st' := [vI 0]) (g' := g) k29_0 rfl rfl ?_
  refine q_s (pc' := 2) (ls' := [vR 116, vI 0, vU, vU, vU]) (st' := []) (g' := g) k29_1 rfl rfl ?_
  rfl
set_option maxHeartbeats 4000000 in
theorem jHo_isClear_2_eq (L : Nat) (l1 : Int) (w2 : AVal) (w3 : AVal) (w4 : AVal) (g : AMem) : jHo_isClear_2 L l1 w2 w3 w4 g = if 12 ≤ l1 then (some (1, g)) else (jHo_isClear_10 L l1 0 w3 w4 g) := by
  unfold jHo_isClear_2
  refine q_s (pc' := 3) (ls' := [vR 116, vI l1, w2, w3, w4]) (st' := [vI l1]) (g' := g) k29_2 rfl rfl ?_
  refine q_s (pc' := 5) (ls' := [vR 116, vI l1, w2, w3, w4]) (st' := [vI 12, vI l1]) (g' := g) k29_3 rfl rfl ?_
  refine q_ic (P := 12 ≤ l1) (t := 60) (pc' := 8) k29_5 Iff.rfl rfl rfl (fun h1 => ?_) (fun h1 => ?_)
  · refine q_s (pc' := 61) (ls' := [vR 116, vI l1, w2, w3, w4]) (st' := [vI 1]) (g' := g) k29_60 rfl rfl ?_
    exact q_e k29_61 rfl rfl rfl
  · refine q_s (pc' := 9) (ls' := [vR 116, vI l1, w2, w3, w4]) (st' := [vI 0]) (g' := g) k29_8 rfl rfl ?_
    refine q_s (pc' := 10) (ls' := [vR 116, vI l1, vI 0, w3, w4]) (st' := []) (g' := g) k29_9 rfl rfl ?_
    rfl
set_option maxHeartbeats 4000000 in
theorem jHo_isClear_10_eq (L : Nat) (l1 : Int) (l2 : Int) (w3 : AVal) (w4 : AVal) (g : AMem) : jHo_isClear_10 L l1 l2 w3 w4 g = if l1 ≤ l2 then (jHo_isClear_2 L (iw (l1 + 1)) (vI l2) w3 w4 g) else ((jHo_involved L l1 g).bind (fun q3 => (jHo_involved L l2 q3.2).bind (fun q4 => if q3.1 < 0 then (jHo_isClear_10 L l1 (iw (l2 + 1)) (vI q3.1) (vI q4.1) q4.2) else (if q4.1 < 0 then (jHo_isClear_10 L l1 (iw (l2 + 1)) (vI q3.1) (vI q4.1) q4.2) else ((jRg_areAcross L q3.1 q4.1 q4.2).bind (fun q7 => if q7.1 = 0 then (jHo_isClear_10 L l1 (iw (l2 + 1)) (vI q3.1) (vI q4.1) q7.2) else (some (0, q7.2)))))))) := by
  unfold jHo_isClear_10
  refine q_s (pc' := 11) (ls' := [vR 116, vI l1, vI l2, w3, w4]) (st' := [vI l2]) (g' := g) k29_10 rfl rfl ?_
  refine q_s (pc' := 12) (ls' := [vR 116, vI l1, vI l2, w3, w4]) (st' := [vI l1, vI l2]) (g' := g) k29_11 rfl rfl ?_
  refine q_ic (P := l1 ≤ l2) (t := 54) (pc' := 15) k29_12 Iff.rfl rfl rfl (fun h2 => ?_) (fun h2 => ?_)
  · refine q_s (pc' := 57) (ls' := [vR 116, vI (iw (l1 + 1)), vI l2, w3, w4]) (st' := []) (g' := g) k29_54 rfl rfl ?_
    refine q_s (pc' := 2) (ls' := [vR 116, vI (iw (l1 + 1)), vI l2, w3, w4]) (st' := []) (g' := g) k29_57 rfl rfl ?_
    rfl
  · refine q_s (pc' := 16) (ls' := [vR 116, vI l1, vI l2, w3, w4]) (st' := [vR 116]) (g' := g) k29_15 rfl rfl ?_
    refine q_s (pc' := 17) (ls' := [vR 116, vI l1, vI l2, w3, w4]) (st' := [vI l1, vR 116]) (g' := g) k29_16 rfl rfl ?_
    refine q_callI (ls0 := [vR 116, vI l1, vU]) (rest := []) (pc' := 20) rfl k29_17 rfl (hy4 rfl rfl rfl rfl) rfl rfl hq_27 rfl (fun q3 => ?_)
    refine q_s (pc' := 21) (ls' := [vR 116, vI l1, vI l2, vI q3.1, w4]) (st' := []) (g' := q3.2) k29_20 rfl rfl ?_
    refine q_s (pc' := 22) (ls' := [vR 116, vI l1, vI l2, vI q3.1, w4]) (st' := [vR 116]) (g' := q3.2) k29_21 rfl rfl ?_
    refine q_s (pc' := 23) (ls' := [vR 116, vI l1, vI l2, vI q3.1, w4]) (st' := [vI l2, vR 116]) (g' := q3.2) k29_22 rfl rfl ?_
    refine q_callI (ls0 := [vR 116, vI l2, vU]) (rest := []) (pc' := 26) rfl k29_23 rfl (hy4 rfl rfl rfl rfl) rfl rfl hq_27 rfl (fun q4 => ?_)
    refine q_s (pc' := 28) (ls' := [vR 116, vI l1, vI l2, vI q3.1, vI q4.1]) (st' := []) (g' := q4.2) k29_26 rfl rfl ?_
    refine q_s (pc' := 29) (ls' := [vR 116, vI l1, vI l2, vI q3.1, vI q4.1]) (st' := [vI q3.1]) (g' := q4.2) k29_28 rfl rfl ?_
    refine q_if (P := q3.1 < 0) (t := 48) (pc' := 32) k29_29 Iff.rfl rfl rfl (fun h5 => ?_) (fun h5 => ?_)
    · refine q_s (pc' := 51) (ls' := [vR 116, vI l1, vI (iw (l2 + 1)), vI q3.1, vI q4.1]) (st' := []) (g' := q4.2) k29_48 rfl rfl ?_
      refine q_s (pc' := 10) (ls' := [vR 116, vI l1, vI (iw (l2 + 1)), vI q3.1, vI q4.1]) (st' := []) (g' := q4.2) k29_51 rfl rfl ?_
      rfl
    · refine q_s (pc' := 34) (ls' := [vR 116, vI l1, vI l2, vI q3.1, vI q4.1]) (st' := [vI q4.1]) (g' := q4.2) k29_32 rfl rfl ?_
      refine q_if (P := q4.1 < 0) (t := 48) (pc' := 37) k29_34 Iff.rfl rfl rfl (fun h6 => ?_) (fun h6 => ?_)
      · refine q_s (pc' := 51) (ls' := [vR 116, vI l1, vI (iw (l2 + 1)), vI q3.1, vI q4.1]) (st' := []) (g' := q4.2) k29_48 rfl rfl ?_
        refine q_s (pc' := 10) (ls' := [vR 116, vI l1, vI (iw (l2 + 1)), vI q3.1, vI q4.1]) (st' := []) (g' := q4.2) k29_51 rfl rfl ?_
        rfl
      · refine q_s (pc' := 38) (ls' := [vR 116, vI l1, vI l2, vI q3.1, vI q4.1]) (st' := [vI q3.1]) (g' := q4.2) k29_37 rfl rfl ?_
        refine q_s (pc' := 40) (ls' := [vR 116, vI l1, vI l2, vI q3.1, vI q4.1]) (st' := [vI q4.1, vI q3.1]) (g' := q4.2) k29_38 rfl rfl ?_
        refine q_callI (ls0 := [vI q3.1, vI q4.1]) (rest := []) (pc' := 43) rfl k29_40 rfl (hy4 rfl rfl rfl rfl) rfl rfl hq_28 rfl (fun q7 => ?_)
        refine q_if (P := q7.1 = 0) (t := 48) (pc' := 46) k29_43 Iff.rfl rfl rfl (fun h8 => ?_) (fun h8 => ?_)
        · refine q_s (pc' := 51) (ls' := [vR 116, vI l1, vI (iw (l2 + 1)), vI q3.1, vI q4.1]) (st' := []) (g' := q7.2) k29_48 rfl rfl ?_
          refine q_s (pc' := 10) (ls' := [vR 116, vI l1, vI (iw (l2 + 1)), vI q3.1, vI q4.1]) (st' := []) (g' := q7.2) k29_51 rfl rfl ?_
          rfl
        · refine q_s (pc' := 47) (ls' := [vR 116, vI l1, vI l2, vI q3.1, vI q4.1]) (st' := [vI 0]) (g' := q7.2) k29_46 rfl rfl ?_
          exact q_e k29_47 rfl rfl rfl
set_option maxHeartbeats 4000000 in
theorem jHo_touches_eq (L : Nat) (a1 : Int) (g : AMem) : jHo_touches L a1 g = jHo_touches_2 L a1 0 g := by
  unfold jHo_touches
  refine q_s (pc' := 1) (ls' := [vR 116, vI a1, vU]) (st' := [vI 0]) (g' := g) k30_0 rfl rfl ?_
  refine q_s (pc' := 2) (ls' := [vR 116, vI a1, vI 0]) (st' := []) (g' := g) k30_1 rfl rfl ?_
  rfl
set_option maxHeartbeats 4000000 in
theorem jHo_touches_2_eq (L : Nat) (l1 : Int) (l2 : Int) (g : AMem) : jHo_touches_2 L l1 l2 g = if g 116 2 ≤ l2 then (some (0, g)) else (if kin (SH L) (g 116 0) = 20 then (if 0 ≤ l2 ∧ l2 < aln (SH L) (g 116 0) then ((jRg_shareByte L (g (g 116 0) l2) l1 g).bind (fun q4 => if q4.1 = 0 then (if kin (SH L) (q4.2 116 1) = 20 then (if 0 ≤ l2 ∧ l2 < aln (SH L) (q4.2 116 1) then (if q4.2 (q4.2 116 1) l2 < 0 then (jHo_touches_2 L l1 (iw (l2 + 1)) q4.2) else (if kin (SH L) (q4.2 116 1) = 20 then (if 0 ≤ l2 ∧ l2 < aln (SH L) (q4.2 116 1) then ((jRg_shareByte L (q4.2 (q4.2 116 1) l2) l1 q4.2).bind (fun q11 => if q11.1 = 0 then (jHo_touches_2 L l1 (iw (l2 + 1)) q11.2) else (some (1, q11.2)))) else none) else none)) else none) else none) else (some (1, q4.2)))) else none) else none) := by
  unfold jHo_touches_2
  refine q_s (pc' := 3) (ls' := [vR 116, vI l1, vI l2]) (st' := [vI l2]) (g' := g) k30_2 rfl rfl ?_
  refine q_s (pc' := 4) (ls' := [vR 116, vI l1, vI l2]) (st' := [vR 116, vI l2]) (g' := g) k30_3 rfl rfl ?_
  refine q_getI (w := 2) (pc' := 7) k30_4 rfl rfl rfl rfl ?_
  refine q_ic (P := g 116 2 ≤ l2) (t := 55) (pc' := 10) k30_7 Iff.rfl rfl rfl (fun h1 => ?_) (fun h1 => ?_)
  · refine q_s (pc' := 56) (ls' := [vR 116, vI l1, vI l2]) (st' := [vI 0]) (g' := g) k30_55 rfl rfl ?_
    exact q_e k30_56 rfl rfl rfl
  · refine q_s (pc' := 11) (ls' := [vR 116, vI l1, vI l2]) (st' := [vR 116]) (g' := g) k30_10 rfl rfl ?_
    refine q_getM (w := 0) (c := 20) (pc' := 14) rfl k30_11 rfl rfl rfl rfl rfl (fun h2 => ?_)
    refine q_s (pc' := 15) (ls' := [vR 116, vI l1, vI l2]) (st' := [vI l2, vR (g 116 0)]) (g' := g) k30_14 rfl rfl ?_
    refine q_iald (n := aln (SH L) (g 116 0)) (pc' := 16) rfl k30_15 rfl rfl (fun h3 => ?_)
    refine q_s (pc' := 17) (ls' := [vR 116, vI l1, vI l2]) (st' := [vI l1, vI (g (g 116 0) l2)]) (g' := g) k30_16 rfl rfl ?_
    refine q_callI (ls0 := [vI (g (g 116 0) l2), vI l1]) (rest := []) (pc' := 20) rfl k30_17 rfl (hy4 rfl rfl rfl rfl) rfl rfl hq_3 rfl (fun q4 => ?_)
    refine q_if (P := q4.1 = 0) (t := 25) (pc' := 23) k30_20 Iff.rfl rfl rfl (fun h5 => ?_) (fun h5 => ?_)
    · refine q_s (pc' := 26) (ls' := [vR 116, vI l1, vI l2]) (st' := [vR 116]) (g' := q4.2) k30_25 rfl rfl ?_
      refine q_getM (w := 1) (c := 20) (pc' := 29) rfl k30_26 rfl rfl rfl rfl rfl (fun h6 => ?_)
      refine q_s (pc' := 30) (ls' := [vR 116, vI l1, vI l2]) (st' := [vI l2, vR (q4.2 116 1)]) (g' := q4.2) k30_29 rfl rfl ?_
      refine q_iald (n := aln (SH L) (q4.2 116 1)) (pc' := 31) rfl k30_30 rfl rfl (fun h7 => ?_)
      refine q_if (P := q4.2 (q4.2 116 1) l2 < 0) (t := 49) (pc' := 34) k30_31 Iff.rfl rfl rfl (fun h8 => ?_) (fun h8 => ?_)
      · refine q_s (pc' := 52) (ls' := [vR 116, vI l1, vI (iw (l2 + 1))]) (st' := []) (g' := q4.2) k30_49 rfl rfl ?_
        refine q_s (pc' := 2) (ls' := [vR 116, vI l1, vI (iw (l2 + 1))]) (st' := []) (g' := q4.2) k30_52 rfl rfl ?_
        rfl
      · refine q_s (pc' := 35) (ls' := [vR 116, vI l1, vI l2]) (st' := [vR 116]) (g' := q4.2) k30_34 rfl rfl ?_
        refine q_getM (w := 1) (c := 20) (pc' := 38) rfl k30_35 rfl rfl rfl rfl rfl (fun h9 => ?_)
        refine q_s (pc' := 39) (ls' := [vR 116, vI l1, vI l2]) (st' := [vI l2, vR (q4.2 116 1)]) (g' := q4.2) k30_38 rfl rfl ?_
        refine q_iald (n := aln (SH L) (q4.2 116 1)) (pc' := 40) rfl k30_39 rfl rfl (fun h10 => ?_)
        refine q_s (pc' := 41) (ls' := [vR 116, vI l1, vI l2]) (st' := [vI l1, vI (q4.2 (q4.2 116 1) l2)]) (g' := q4.2) k30_40 rfl rfl ?_
        refine q_callI (ls0 := [vI (q4.2 (q4.2 116 1) l2), vI l1]) (rest := []) (pc' := 44) rfl k30_41 rfl (hy4 rfl rfl rfl rfl) rfl rfl hq_3 rfl (fun q11 => ?_)
        refine q_if (P := q11.1 = 0) (t := 49) (pc' := 47) k30_44 Iff.rfl rfl rfl (fun h12 => ?_) (fun h12 => ?_)
        · refine q_s (pc' := 52) (ls' := [vR 116, vI l1, vI (iw (l2 + 1))]) (st' := []) (g' := q11.2) k30_49 rfl rfl ?_
          refine q_s (pc' := 2) (ls' := [vR 116, vI l1, vI (iw (l2 + 1))]) (st' := []) (g' := q11.2) k30_52 rfl rfl ?_
          rfl
        · refine q_s (pc' := 48) (ls' := [vR 116, vI l1, vI l2]) (st' := [vI 1]) (g' := q11.2) k30_47 rfl rfl ?_
          exact q_e k30_48 rfl rfl rfl
    · refine q_s (pc' := 24) (ls' := [vR 116, vI l1, vI l2]) (st' := [vI 1]) (g' := q4.2) k30_23 rfl rfl ?_
      exact q_e k30_24 rfl rfl rfl
set_option maxHeartbeats 4000000 in
theorem jHo_openAt_eq (L : Nat) (a1 : Int) (g : AMem) : jHo_openAt L a1 g = jHo_openAt_2 L a1 0 g := by
  unfold jHo_openAt
  refine q_s (pc' := 1) (ls' := [vR 116, vI a1, vU]) (st' := [vI 0]) (g' := g) k31_0 rfl rfl ?_
  refine q_s (pc' := 2) (ls' := [vR 116, vI a1, vI 0]) (st' := []) (g' := g) k31_1 rfl rfl ?_
  rfl
set_option maxHeartbeats 4000000 in
theorem jHo_openAt_2_eq (L : Nat) (l1 : Int) (l2 : Int) (g : AMem) : jHo_openAt_2 L l1 l2 g = if g 116 2 ≤ l2 then (some ((-1), g)) else (if kin (SH L) (g 116 0) = 20 then (if 0 ≤ l2 ∧ l2 < aln (SH L) (g 116 0) then (if g (g 116 0) l2 ≠ l1 then (jHo_openAt_2 L l1 (iw (l2 + 1)) g) else ((jHo_isOpen L l2 g).bind (fun q5 => if q5.1 = 0 then (jHo_openAt_2 L l1 (iw (l2 + 1)) q5.2) else (some (l2, q5.2))))) else none) else none) := by
  unfold jHo_openAt_2
  refine q_s (pc' := 3) (ls' := [vR 116, vI l1, vI l2]) (st' := [vI l2]) (g' := g) k31_2 rfl rfl ?_
  refine q_s (pc' := 4) (ls' := [vR 116, vI l1, vI l2]) (st' := [vR 116, vI l2]) (g' := g) k31_3 rfl rfl ?_
  refine q_getI (w := 2) (pc' := 7) k31_4 rfl rfl rfl rfl ?_
  refine q_ic (P := g 116 2 ≤ l2) (t := 36) (pc' := 10) k31_7 Iff.rfl rfl rfl (fun h1 => ?_) (fun h1 => ?_)
  · refine q_s (pc' := 37) (ls' := [vR 116, vI l1, vI l2]) (st' := [vI (-1)]) (g' := g) k31_36 rfl rfl ?_
    exact q_e k31_37 rfl rfl rfl
  · refine q_s (pc' := 11) (ls' := [vR 116, vI l1, vI l2]) (st' := [vR 116]) (g' := g) k31_10 rfl rfl ?_
    refine q_getM (w := 0) (c := 20) (pc' := 14) rfl k31_11 rfl rfl rfl rfl rfl (fun h2 => ?_)
    refine q_s (pc' := 15) (ls' := [vR 116, vI l1, vI l2]) (st' := [vI l2, vR (g 116 0)]) (g' := g) k31_14 rfl rfl ?_
    refine q_iald (n := aln (SH L) (g 116 0)) (pc' := 16) rfl k31_15 rfl rfl (fun h3 => ?_)
    refine q_s (pc' := 17) (ls' := [vR 116, vI l1, vI l2]) (st' := [vI l1, vI (g (g 116 0) l2)]) (g' := g) k31_16 rfl rfl ?_
    refine q_ic (P := g (g 116 0) l2 ≠ l1) (t := 30) (pc' := 20) k31_17 Iff.rfl rfl rfl (fun h4 => ?_) (fun h4 => ?_)
    · refine q_s (pc' := 33) (ls' := [vR 116, vI l1, vI (iw (l2 + 1))]) (st' := []) (g' := g) k31_30 rfl rfl ?_
      refine q_s (pc' := 2) (ls' := [vR 116, vI l1, vI (iw (l2 + 1))]) (st' := []) (g' := g) k31_33 rfl rfl ?_
      rfl
    · refine q_s (pc' := 21) (ls' := [vR 116, vI l1, vI l2]) (st' := [vR 116]) (g' := g) k31_20 rfl rfl ?_
      refine q_s (pc' := 22) (ls' := [vR 116, vI l1, vI l2]) (st' := [vI l2, vR 116]) (g' := g) k31_21 rfl rfl ?_
      refine q_callI (ls0 := [vR 116, vI l2]) (rest := []) (pc' := 25) rfl k31_22 rfl (hy4 rfl rfl rfl rfl) rfl rfl hq_26 rfl (fun q5 => ?_)
      refine q_if (P := q5.1 = 0) (t := 30) (pc' := 28) k31_25 Iff.rfl rfl rfl (fun h6 => ?_) (fun h6 => ?_)
      · refine q_s (pc' := 33) (ls' := [vR 116, vI l1, vI (iw (l2 + 1))]) (st' := []) (g' := q5.2) k31_30 rfl rfl ?_
        refine q_s (pc' := 2) (ls' := [vR 116, vI l1, vI (iw (l2 + 1))]) (st' := []) (g' := q5.2) k31_33 rfl rfl ?_
        rfl
      · refine q_s (pc' := 29) (ls' := [vR 116, vI l1, vI l2]) (st' := [vI l2]) (g' := q5.2) k31_28 rfl rfl ?_
        exact q_e k31_29 rfl rfl rfl
set_option maxHeartbeats 4000000 in
theorem jHo_countWanting_eq (L : Nat) (a1 : Int) (g : AMem) : jHo_countWanting L a1 g = jHo_countWanting_4 L a1 0 0 g := by
  unfold jHo_countWanting
  refine q_s (pc' := 1) (ls' := [vR 116, vI a1, vU, vU]) (st' := [vI 0]) (g' := g) k32_0 rfl rfl ?_
  refine q_s (pc' := 2) (ls' := [vR 116, vI a1, vI 0, vU]) (st' := []) (g' := g) k32_1 rfl rfl ?_
  refine q_s (pc' := 3) (ls' := [vR 116, vI a1, vI 0, vU]) (st' := [vI 0]) (g' := g) k32_2 rfl rfl ?_
  refine q_s (pc' := 4) (ls' := [vR 116, vI a1, vI 0, vI 0]) (st' := []) (g' := g) k32_3 rfl rfl ?_
  rfl
set_option maxHeartbeats 4000000 in
theorem jHo_countWanting_4_eq (L : Nat) (l1 : Int) (l2 : Int) (l3 : Int) (g : AMem) : jHo_countWanting_4 L l1 l2 l3 g = if g 116 2 ≤ l3 then (some (l2, g)) else ((jHo_isOpen L l3 g).bind (fun q2 => if q2.1 = 0 then (jHo_countWanting_4 L l1 (iw (l2 + 0)) (iw (l3 + 1)) q2.2) else (if kin (SH L) (q2.2 116 1) = 20 then (if 0 ≤ l3 ∧ l3 < aln (SH L) (q2.2 116 1) then (if q2.2 (q2.2 116 1) l3 ≠ l1 then (jHo_countWanting_4 L l1 (iw (l2 + 0)) (iw (l3 + 1)) q2.2) else (jHo_countWanting_4 L l1 (iw (l2 + 1)) (iw (l3 + 1)) q2.2)) else none) else none))) := by
  unfold jHo_countWanting_4
  refine q_s (pc' := 5) (ls' := [vR 116, vI l1, vI l2, vI l3]) (st' := [vI l3]) (g' := g) k32_4 rfl rfl ?_
  refine q_s (pc' := 6) (ls' := [vR 116, vI l1, vI l2, vI l3]) (st' := [vR 116, vI l3]) (g' := g) k32_5 rfl rfl ?_
  refine q_getI (w := 2) (pc' := 9) k32_6 rfl rfl rfl rfl ?_
  refine q_ic (P := g 116 2 ≤ l3) (t := 44) (pc' := 12) k32_9 Iff.rfl rfl rfl (fun h1 => ?_) (fun h1 => ?_)
  · refine q_s (pc' := 45) (ls' := [vR 116, vI l1, vI l2, vI l3]) (st' := [vI l2]) (g' := g) k32_44 rfl rfl ?_
    exact q_e k32_45 rfl rfl rfl
  · refine q_s (pc' := 13) (ls' := [vR 116, vI l1, vI l2, vI l3]) (st' := [vI l2]) (g' := g) k32_12 rfl rfl ?_
    refine q_s (pc' := 14) (ls' := [vR 116, vI l1, vI l2, vI l3]) (st' := [vR 116, vI l2]) (g' := g) k32_13 rfl rfl ?_
    refine q_s (pc' := 15) (ls' := [vR 116, vI l1, vI l2, vI l3]) (st' := [vI l3, vR 116, vI l2]) (g' := g) k32_14 rfl rfl ?_
    refine q_callI (ls0 := [vR 116, vI l3]) (rest := [vI l2]) (pc' := 18) rfl k32_15 rfl (hy4 rfl rfl rfl rfl) rfl rfl hq_26 rfl (fun q2 => ?_)
    refine q_if (P := q2.1 = 0) (t := 35) (pc' := 21) k32_18 Iff.rfl rfl rfl (fun h3 => ?_) (fun h3 => ?_)
    · refine q_s (pc' := 36) (ls' := [vR 116, vI l1, vI l2, vI l3]) (st' := [vI 0, vI l2]) (g' := q2.2) k32_35 rfl rfl ?_
      refine q_s (pc' := 37) (ls' := [vR 116, vI l1, vI l2, vI l3]) (st' := [vI (iw (l2 + 0))]) (g' := q2.2) k32_36 rfl rfl ?_
      refine q_s (pc' := 38) (ls' := [vR 116, vI l1, vI (iw (l2 + 0)), vI l3]) (st' := []) (g' := q2.2) k32_37 rfl rfl ?_
      refine q_s (pc' := 41) (ls' := [vR 116, vI l1, vI (iw (l2 + 0)), vI (iw (l3 + 1))]) (st' := []) (g' := q2.2) k32_38 rfl rfl ?_
      refine q_s (pc' := 4) (ls' := [vR 116, vI l1, vI (iw (l2 + 0)), vI (iw (l3 + 1))]) (st' := []) (g' := q2.2) k32_41 rfl rfl ?_
      rfl
    · refine q_s (pc' := 22) (ls' := [vR 116, vI l1, vI l2, vI l3]) (st' := [vR 116, vI l2]) (g' := q2.2) k32_21 rfl rfl ?_
      refine q_getM (w := 1) (c := 20) (pc' := 25) rfl k32_22 rfl rfl rfl rfl rfl (fun h4 => ?_)
      refine q_s (pc' := 26) (ls' := [vR 116, vI l1, vI l2, vI l3]) (st' := [vI l3, vR (q2.2 116 1), vI l2]) (g' := q2.2) k32_25 rfl rfl ?_
      refine q_iald (n := aln (SH L) (q2.2 116 1)) (pc' := 27) rfl k32_26 rfl rfl (fun h5 => ?_)
      refine q_s (pc' := 28) (ls' := [vR 116, vI l1, vI l2, vI l3]) (st' := [vI l1, vI (q2.2 (q2.2 116 1) l3), vI l2]) (g' := q2.2) k32_27 rfl rfl ?_
      refine q_ic (P := q2.2 (q2.2 116 1) l3 ≠ l1) (t := 35) (pc' := 31) k32_28 Iff.rfl rfl rfl (fun h6 => ?_) (fun h6 => ?_)
      · refine q_s (pc' := 36) (ls' := [vR 116, vI l1, vI l2, vI l3]) (st' := [vI 0, vI l2]) (g' := q2.2) k32_35 rfl rfl ?_
        refine q_s (pc' := 37) (ls' := [vR 116, vI l1, vI l2, vI l3]) (st' := [vI (iw (l2 + 0))]) (g' := q2.2) k32_36 rfl rfl ?_
        refine q_s (pc' := 38) (ls' := [vR 116, vI l1, vI (iw (l2 + 0)), vI l3]) (st' := []) (g' := q2.2) k32_37 rfl rfl ?_
        refine q_s (pc' := 41) (ls' := [vR 116, vI l1, vI (iw (l2 + 0)), vI (iw (l3 + 1))]) (st' := []) (g' := q2.2) k32_38 rfl rfl ?_
        refine q_s (pc' := 4) (ls' := [vR 116, vI l1, vI (iw (l2 + 0)), vI (iw (l3 + 1))]) (st' := []) (g' := q2.2) k32_41 rfl rfl ?_
        rfl
      · refine q_s (pc' := 32) (ls' := [vR 116, vI l1, vI l2, vI l3]) (st' := [vI 1, vI l2]) (g' := q2.2) k32_31 rfl rfl ?_
        refine q_s (pc' := 36) (ls' := [vR 116, vI l1, vI l2, vI l3]) (st' := [vI 1, vI l2]) (g' := q2.2) k32_32 rfl rfl ?_
        refine q_s (pc' := 37) (ls' := [vR 116, vI l1, vI l2, vI l3]) (st' := [vI (iw (l2 + 1))]) (g' := q2.2) k32_36 rfl rfl ?_
        refine q_s (pc' := 38) (ls' := [vR 116, vI l1, vI (iw (l2 + 1)), vI l3]) (st' := []) (g' := q2.2) k32_37 rfl rfl ?_
        refine q_s (pc' := 41) (ls' := [vR 116, vI l1, vI (iw (l2 + 1)), vI (iw (l3 + 1))]) (st' := []) (g' := q2.2) k32_38 rfl rfl ?_
        refine q_s (pc' := 4) (ls' := [vR 116, vI l1, vI (iw (l2 + 1)), vI (iw (l3 + 1))]) (st' := []) (g' := q2.2) k32_41 rfl rfl ?_
        rfl
set_option maxHeartbeats 4000000 in
theorem jHo_ringSize_eq (L : Nat) (a1 : Int) (g : AMem) : jHo_ringSize L a1 g = jHo_ringSize_4 L a1 a1 1 g := by
  unfold jHo_ringSize
  refine q_s (pc' := 1) (ls' := [vR 116, vI a1, vU, vU]) (st' := [vI a1]) (g' := g) k33_0 rfl rfl ?_
  refine q_s (pc' := 2) (ls' := [vR 116, vI a1, vI a1, vU]) (st' := []) (g' := g) k33_1 rfl rfl ?_
  refine q_s (pc' := 3) (ls' := [vR 116, vI a1, vI a1, vU]) (st' := [vI 1]) (g' := g) k33_2 rfl rfl ?_
  refine q_s (pc' := 4) (ls' := [vR 116, vI a1, vI a1, vI 1]) (st' := []) (g' := g) k33_3 rfl rfl ?_
  rfl
set_option maxHeartbeats 4000000 in
theorem jHo_ringSize_4_eq (L : Nat) (l1 : Int) (l2 : Int) (l3 : Int) (g : AMem) : jHo_ringSize_4 L l1 l2 l3 g = if g 116 2 < l3 then (some (0, g)) else (if kin (SH L) (g 116 0) = 20 then (if 0 ≤ l2 ∧ l2 < aln (SH L) (g 116 0) then ((jHo_countWanting L (g (g 116 0) l2) g).bind (fun q4 => if q4.1 = 1 then (if kin (SH L) (q4.2 116 1) = 20 then (if 0 ≤ l2 ∧ l2 < aln (SH L) (q4.2 116 1) then ((jHo_openAt L (q4.2 (q4.2 116 1) l2) q4.2).bind (fun q8 => if 0 ≤ q8.1 then (if q8.1 ≠ l1 then (jHo_ringSize_4 L l1 q8.1 (iw (l3 + 1)) q8.2) else (some (l3, q8.2))) else (some (0, q8.2)))) else none) else none) else (some (0, q4.2)))) else none) else none) := by
  unfold jHo_ringSize_4
  refine q_s (pc' := 5) (ls' := [vR 116, vI l1, vI l2, vI l3]) (st' := [vI l3]) (g' := g) k33_4 rfl rfl ?_
  refine q_s (pc' := 6) (ls' := [vR 116, vI l1, vI l2, vI l3]) (st' := [vR 116, vI l3]) (g' := g) k33_5 rfl rfl ?_
  refine q_getI (w := 2) (pc' := 9) k33_6 rfl rfl rfl rfl ?_
  refine q_ic (P := g 116 2 < l3) (t := 58) (pc' := 12) k33_9 Iff.rfl rfl rfl (fun h1 => ?_) (fun h1 => ?_)
  · refine q_s (pc' := 59) (ls' := [vR 116, vI l1, vI l2, vI l3]) (st' := [vI 0]) (g' := g) k33_58 rfl rfl ?_
    exact q_e k33_59 rfl rfl rfl
  · refine q_s (pc' := 13) (ls' := [vR 116, vI l1, vI l2, vI l3]) (st' := [vR 116]) (g' := g) k33_12 rfl rfl ?_
    refine q_s (pc' := 14) (ls' := [vR 116, vI l1, vI l2, vI l3]) (st' := [vR 116, vR 116]) (g' := g) k33_13 rfl rfl ?_
    refine q_getM (w := 0) (c := 20) (pc' := 17) rfl k33_14 rfl rfl rfl rfl rfl (fun h2 => ?_)
    refine q_s (pc' := 18) (ls' := [vR 116, vI l1, vI l2, vI l3]) (st' := [vI l2, vR (g 116 0), vR 116]) (g' := g) k33_17 rfl rfl ?_
    refine q_iald (n := aln (SH L) (g 116 0)) (pc' := 19) rfl k33_18 rfl rfl (fun h3 => ?_)
    refine q_callI (ls0 := [vR 116, vI (g (g 116 0) l2), vU, vU]) (rest := []) (pc' := 22) rfl k33_19 rfl (hy4 rfl rfl rfl rfl) rfl rfl hq_32 rfl (fun q4 => ?_)
    refine q_s (pc' := 23) (ls' := [vR 116, vI l1, vI l2, vI l3]) (st' := [vI 1, vI q4.1]) (g' := q4.2) k33_22 rfl rfl ?_
    refine q_ic (P := q4.1 = 1) (t := 28) (pc' := 26) k33_23 Iff.rfl rfl rfl (fun h5 => ?_) (fun h5 => ?_)
    · refine q_s (pc' := 29) (ls' := [vR 116, vI l1, vI l2, vI l3]) (st' := [vR 116]) (g' := q4.2) k33_28 rfl rfl ?_
      refine q_s (pc' := 30) (ls' := [vR 116, vI l1, vI l2, vI l3]) (st' := [vR 116, vR 116]) (g' := q4.2) k33_29 rfl rfl ?_
      refine q_getM (w := 1) (c := 20) (pc' := 33) rfl k33_30 rfl rfl rfl rfl rfl (fun h6 => ?_)
      refine q_s (pc' := 34) (ls' := [vR 116, vI l1, vI l2, vI l3]) (st' := [vI l2, vR (q4.2 116 1), vR 116]) (g' := q4.2) k33_33 rfl rfl ?_
      refine q_iald (n := aln (SH L) (q4.2 116 1)) (pc' := 35) rfl k33_34 rfl rfl (fun h7 => ?_)
      refine q_callI (ls0 := [vR 116, vI (q4.2 (q4.2 116 1) l2), vU]) (rest := []) (pc' := 38) rfl k33_35 rfl (hy4 rfl rfl rfl rfl) rfl rfl hq_31 rfl (fun q8 => ?_)
      refine q_s (pc' := 39) (ls' := [vR 116, vI l1, vI q8.1, vI l3]) (st' := []) (g' := q8.2) k33_38 rfl rfl ?_
      refine q_s (pc' := 40) (ls' := [vR 116, vI l1, vI q8.1, vI l3]) (st' := [vI q8.1]) (g' := q8.2) k33_39 rfl rfl ?_
      refine q_if (P := 0 ≤ q8.1) (t := 45) (pc' := 43) k33_40 Iff.rfl rfl rfl (fun h9 => ?_) (fun h9 => ?_)
      · refine q_s (pc' := 46) (ls' := [vR 116, vI l1, vI q8.1, vI l3]) (st' := [vI q8.1]) (g' := q8.2) k33_45 rfl rfl ?_
        refine q_s (pc' := 47) (ls' := [vR 116, vI l1, vI q8.1, vI l3]) (st' := [vI l1, vI q8.1]) (g' := q8.2) k33_46 rfl rfl ?_
        refine q_ic (P := q8.1 ≠ l1) (t := 52) (pc' := 50) k33_47 Iff.rfl rfl rfl (fun h10 => ?_) (fun h10 => ?_)
        · refine q_s (pc' := 55) (ls' := [vR 116, vI l1, vI q8.1, vI (iw (l3 + 1))]) (st' := []) (g' := q8.2) k33_52 rfl rfl ?_
          refine q_s (pc' := 4) (ls' := [vR 116, vI l1, vI q8.1, vI (iw (l3 + 1))]) (st' := []) (g' := q8.2) k33_55 rfl rfl ?_
          rfl
        · refine q_s (pc' := 51) (ls' := [vR 116, vI l1, vI q8.1, vI l3]) (st' := [vI l3]) (g' := q8.2) k33_50 rfl rfl ?_
          exact q_e k33_51 rfl rfl rfl
      · refine q_s (pc' := 44) (ls' := [vR 116, vI l1, vI q8.1, vI l3]) (st' := [vI 0]) (g' := q8.2) k33_43 rfl rfl ?_
        exact q_e k33_44 rfl rfl rfl
    · refine q_s (pc' := 27) (ls' := [vR 116, vI l1, vI l2, vI l3]) (st' := [vI 0]) (g' := q4.2) k33_26 rfl rfl ?_
      exact q_e k33_27 rfl rfl rfl
set_option maxHeartbeats 4000000 in
theorem jHo_countInRingsOf_eq (L : Nat) (a1 : Int) (g : AMem) : jHo_countInRingsOf L a1 g = jHo_countInRingsOf_4 L a1 0 0 g := by
  unfold jHo_countInRingsOf
  refine q_s (pc' := 1) (ls' := [vR 116, vI a1, vU, vU]) (st' := [vI 0]) (g' := g) k34_0 rfl rfl ?_
  refine q_s (pc' := 2) (ls' := [vR 116, vI a1, vI 0, vU]) (st' := []) (g' := g) k34_1 rfl rfl ?_
  refine q_s (pc' := 3) (ls' := [vR 116, vI a1, vI 0, vU]) (st' := [vI 0]) (g' := g) k34_2 rfl rfl ?_
  refine q_s (pc' := 4) (ls' := [vR 116, vI a1, vI 0, vI 0]) (st' := []) (g' := g) k34_3 rfl rfl ?_
  rfl
set_option maxHeartbeats 4000000 in
theorem jHo_countInRingsOf_4_eq (L : Nat) (l1 : Int) (l2 : Int) (l3 : Int) (g : AMem) : jHo_countInRingsOf_4 L l1 l2 l3 g = if g 116 2 ≤ l3 then (some (l2, g)) else ((jHo_isOpen L l3 g).bind (fun q2 => if q2.1 = 0 then (jHo_countInRingsOf_4 L l1 (iw (l2 + 0)) (iw (l3 + 1)) q2.2) else ((jHo_ringSize L l3 q2.2).bind (fun q4 => if q4.1 ≠ l1 then (jHo_countInRingsOf_4 L l1 (iw (l2 + 0)) (iw (l3 + 1)) q4.2) else (jHo_countInRingsOf_4 L l1 (iw (l2 + 1)) (iw (l3 + 1)) q4.2))))) := by
  unfold jHo_countInRingsOf_4
  refine q_s (pc' := 5) (ls' := [vR 116, vI l1, vI l2, vI l3]) (st' := [vI l3]) (g' := g) k34_4 rfl rfl ?_
  refine q_s (pc' := 6) (ls' := [vR 116, vI l1, vI l2, vI l3]) (st' := [vR 116, vI l3]) (g' := g) k34_5 rfl rfl ?_
  refine q_getI (w := 2) (pc' := 9) k34_6 rfl rfl rfl rfl ?_
  refine q_ic (P := g 116 2 ≤ l3) (t := 43) (pc' := 12) k34_9 Iff.rfl rfl rfl (fun h1 => ?_) (fun h1 => ?_)
  · refine q_s (pc' := 44) (ls' := [vR 116, vI l1, vI l2, vI l3]) (st' := [vI l2]) (g' := g) k34_43 rfl rfl ?_
    exact q_e k34_44 rfl rfl rfl
  · refine q_s (pc' := 13) (ls' := [vR 116, vI l1, vI l2, vI l3]) (st' := [vI l2]) (g' := g) k34_12 rfl rfl ?_
    refine q_s (pc' := 14) (ls' := [vR 116, vI l1, vI l2, vI l3]) (st' := [vR 116, vI l2]) (g' := g) k34_13 rfl rfl ?_
    refine q_s (pc' := 15) (ls' := [vR 116, vI l1, vI l2, vI l3]) (st' := [vI l3, vR 116, vI l2]) (g' := g) k34_14 rfl rfl ?_
    refine q_callI (ls0 := [vR 116, vI l3]) (rest := [vI l2]) (pc' := 18) rfl k34_15 rfl (hy4 rfl rfl rfl rfl) rfl rfl hq_26 rfl (fun q2 => ?_)
    refine q_if (P := q2.1 = 0) (t := 34) (pc' := 21) k34_18 Iff.rfl rfl rfl (fun h3 => ?_) (fun h3 => ?_)
    · refine q_s (pc' := 35) (ls' := [vR 116, vI l1, vI l2, vI l3]) (st' := [vI 0, vI l2]) (g' := q2.2) k34_34 rfl rfl ?_
      refine q_s (pc' := 36) (ls' := [vR 116, vI l1, vI l2, vI l3]) (st' := [vI (iw (l2 + 0))]) (g' := q2.2) k34_35 rfl rfl ?_
      refine q_s (pc' := 37) (ls' := [vR 116, vI l1, vI (iw (l2 + 0)), vI l3]) (st' := []) (g' := q2.2) k34_36 rfl rfl ?_
      refine q_s (pc' := 40) (ls' := [vR 116, vI l1, vI (iw (l2 + 0)), vI (iw (l3 + 1))]) (st' := []) (g' := q2.2) k34_37 rfl rfl ?_
      refine q_s (pc' := 4) (ls' := [vR 116, vI l1, vI (iw (l2 + 0)), vI (iw (l3 + 1))]) (st' := []) (g' := q2.2) k34_40 rfl rfl ?_
      rfl
    · refine q_s (pc' := 22) (ls' := [vR 116, vI l1, vI l2, vI l3]) (st' := [vR 116, vI l2]) (g' := q2.2) k34_21 rfl rfl ?_
      refine q_s (pc' := 23) (ls' := [vR 116, vI l1, vI l2, vI l3]) (st' := [vI l3, vR 116, vI l2]) (g' := q2.2) k34_22 rfl rfl ?_
      refine q_callI (ls0 := [vR 116, vI l3, vU, vU]) (rest := [vI l2]) (pc' := 26) rfl k34_23 rfl (hy4 rfl rfl rfl rfl) rfl rfl hq_33 rfl (fun q4 => ?_)
      refine q_s (pc' := 27) (ls' := [vR 116, vI l1, vI l2, vI l3]) (st' := [vI l1, vI q4.1, vI l2]) (g' := q4.2) k34_26 rfl rfl ?_
      refine q_ic (P := q4.1 ≠ l1) (t := 34) (pc' := 30) k34_27 Iff.rfl rfl rfl (fun h5 => ?_) (fun h5 => ?_)
      · refine q_s (pc' := 35) (ls' := [vR 116, vI l1, vI l2, vI l3]) (st' := [vI 0, vI l2]) (g' := q4.2) k34_34 rfl rfl ?_
        refine q_s (pc' := 36) (ls' := [vR 116, vI l1, vI l2, vI l3]) (st' := [vI (iw (l2 + 0))]) (g' := q4.2) k34_35 rfl rfl ?_
        refine q_s (pc' := 37) (ls' := [vR 116, vI l1, vI (iw (l2 + 0)), vI l3]) (st' := []) (g' := q4.2) k34_36 rfl rfl ?_
        refine q_s (pc' := 40) (ls' := [vR 116, vI l1, vI (iw (l2 + 0)), vI (iw (l3 + 1))]) (st' := []) (g' := q4.2) k34_37 rfl rfl ?_
        refine q_s (pc' := 4) (ls' := [vR 116, vI l1, vI (iw (l2 + 0)), vI (iw (l3 + 1))]) (st' := []) (g' := q4.2) k34_40 rfl rfl ?_
        rfl
      · refine q_s (pc' := 31) (ls' := [vR 116, vI l1, vI l2, vI l3]) (st' := [vI 1, vI l2]) (g' := q4.2) k34_30 rfl rfl ?_
        refine q_s (pc' := 35) (ls' := [vR 116, vI l1, vI l2, vI l3]) (st' := [vI 1, vI l2]) (g' := q4.2) k34_31 rfl rfl ?_
        refine q_s (pc' := 36) (ls' := [vR 116, vI l1, vI l2, vI l3]) (st' := [vI (iw (l2 + 1))]) (g' := q4.2) k34_35 rfl rfl ?_
        refine q_s (pc' := 37) (ls' := [vR 116, vI l1, vI (iw (l2 + 1)), vI l3]) (st' := []) (g' := q4.2) k34_36 rfl rfl ?_
        refine q_s (pc' := 40) (ls' := [vR 116, vI l1, vI (iw (l2 + 1)), vI (iw (l3 + 1))]) (st' := []) (g' := q4.2) k34_37 rfl rfl ?_
        refine q_s (pc' := 4) (ls' := [vR 116, vI l1, vI (iw (l2 + 1)), vI (iw (l3 + 1))]) (st' := []) (g' := q4.2) k34_40 rfl rfl ?_
        rfl
set_option maxHeartbeats 4000000 in
theorem jHo_countRings_eq (L : Nat) (g : AMem) : jHo_countRings L g = jHo_countRings_4 L 0 2 g := by
  unfold jHo_countRings
  refine q_s (pc' := 1) (ls' := [vR 116, vU, vU]) (st' := [vI 0]) (g' := g) k35_0 rfl rfl ?_
  refine q_s (pc' := 2) (ls' := [vR 116, vI 0, vU]) (st' := []) (g' := g) k35_1 rfl rfl ?_
  refine q_s (pc' := 3) (ls' := [vR 116, vI 0, vU]) (st' := [vI 2]) (g' := g) k35_2 rfl rfl ?_
  refine q_s (pc' := 4) (ls' := [vR 116, vI 0, vI 2]) (st' := []) (g' := g) k35_3 rfl rfl ?_
  rfl
set_option maxHeartbeats 4000000 in
theorem jHo_countRings_4_eq (L : Nat) (l1 : Int) (l2 : Int) (g : AMem) : jHo_countRings_4 L l1 l2 g = if 6 < l2 then (some (l1, g)) else ((jHo_countInRingsOf L l2 g).bind (fun q2 => if l2 = 0 then none else jHo_countRings_4 L (iw (l1 + (iw (q2.1.tdiv l2)))) (iw (l2 + 1)) q2.2)) := by
  unfold jHo_countRings_4
  refine q_s (pc' := 5) (ls' := [vR 116, vI l1, vI l2]) (st' := [vI l2]) (g' := g) k35_4 rfl rfl ?_
  refine q_s (pc' := 7) (ls' := [vR 116, vI l1, vI l2]) (st' := [vI 6, vI l2]) (g' := g) k35_5 rfl rfl ?_
  refine q_ic (P := 6 < l2) (t := 26) (pc' := 10) k35_7 Iff.rfl rfl rfl (fun h1 => ?_) (fun h1 => ?_)
  · refine q_s (pc' := 27) (ls' := [vR 116, vI l1, vI l2]) (st' := [vI l1]) (g' := g) k35_26 rfl rfl ?_
    exact q_e k35_27 rfl rfl rfl
  · refine q_s (pc' := 11) (ls' := [vR 116, vI l1, vI l2]) (st' := [vI l1]) (g' := g) k35_10 rfl rfl ?_
    refine q_s (pc' := 12) (ls' := [vR 116, vI l1, vI l2]) (st' := [vR 116, vI l1]) (g' := g) k35_11 rfl rfl ?_
    refine q_s (pc' := 13) (ls' := [vR 116, vI l1, vI l2]) (st' := [vI l2, vR 116, vI l1]) (g' := g) k35_12 rfl rfl ?_
    refine q_callI (ls0 := [vR 116, vI l2, vU, vU]) (rest := [vI l1]) (pc' := 16) rfl k35_13 rfl (hy4 rfl rfl rfl rfl) rfl rfl hq_34 rfl (fun q2 => ?_)
    refine q_s (pc' := 17) (ls' := [vR 116, vI l1, vI l2]) (st' := [vI l2, vI q2.1, vI l1]) (g' := q2.2) k35_16 rfl rfl ?_
    refine q_idiv (pc' := 18) rfl k35_17 rfl (fun _ => ?_)
    refine q_s (pc' := 19) (ls' := [vR 116, vI l1, vI l2]) (st' := [vI (iw (l1 + (iw (q2.1.tdiv l2))))]) (g' := q2.2) k35_18 rfl rfl ?_
    refine q_s (pc' := 20) (ls' := [vR 116, vI (iw (l1 + (iw (q2.1.tdiv l2)))), vI l2]) (st' := []) (g' := q2.2) k35_19 rfl rfl ?_
    refine q_s (pc' := 23) (ls' := [vR 116, vI (iw (l1 + (iw (q2.1.tdiv l2)))), vI (iw (l2 + 1))]) (st' := []) (g' := q2.2) k35_20 rfl rfl ?_
    refine q_s (pc' := 4) (ls' := [vR 116, vI (iw (l1 + (iw (q2.1.tdiv l2)))), vI (iw (l2 + 1))]) (st' := []) (g' := q2.2) k35_23 rfl rfl ?_
    rfl
set_option maxHeartbeats 4000000 in
theorem jHo_longestRing_eq (L : Nat) (g : AMem) : jHo_longestRing L g = jHo_longestRing_4 L 0 0 g := by
  unfold jHo_longestRing
  refine q_s (pc' := 1) (ls' := [vR 116, vU, vU]) (st' := [vI 0]) (g' := g) k36_0 rfl rfl ?_
  refine q_s (pc' := 2) (ls' := [vR 116, vI 0, vU]) (st' := []) (g' := g) k36_1 rfl rfl ?_
  refine q_s (pc' := 3) (ls' := [vR 116, vI 0, vU]) (st' := [vI 0]) (g' := g) k36_2 rfl rfl ?_
  refine q_s (pc' := 4) (ls' := [vR 116, vI 0, vI 0]) (st' := []) (g' := g) k36_3 rfl rfl ?_
  rfl
set_option maxHeartbeats 4000000 in
theorem jHo_longestRing_4_eq (L : Nat) (l1 : Int) (l2 : Int) (g : AMem) : jHo_longestRing_4 L l1 l2 g = if g 116 2 ≤ l2 then (some (l1, g)) else ((jHo_isOpen L l2 g).bind (fun q2 => if q2.1 = 0 then (jHo_longestRing_4 L l1 (iw (l2 + 1)) q2.2) else ((jHo_ringSize L l2 q2.2).bind (fun q4 => jHo_longestRing_4 L (if l1 < q4.1 then q4.1 else l1) (iw (l2 + 1)) q4.2)))) := by
  unfold jHo_longestRing_4
  refine q_s (pc' := 5) (ls' := [vR 116, vI l1, vI l2]) (st' := [vI l2]) (g' := g) k36_4 rfl rfl ?_
  refine q_s (pc' := 6) (ls' := [vR 116, vI l1, vI l2]) (st' := [vR 116, vI l2]) (g' := g) k36_5 rfl rfl ?_
  refine q_getI (w := 2) (pc' := 9) k36_6 rfl rfl rfl rfl ?_
  refine q_ic (P := g 116 2 ≤ l2) (t := 40) (pc' := 12) k36_9 Iff.rfl rfl rfl (fun h1 => ?_) (fun h1 => ?_)
  · refine q_s (pc' := 41) (ls' := [vR 116, vI l1, vI l2]) (st' := [vI l1]) (g' := g) k36_40 rfl rfl ?_
    exact q_e k36_41 rfl rfl rfl
  · refine q_s (pc' := 13) (ls' := [vR 116, vI l1, vI l2]) (st' := [vR 116]) (g' := g) k36_12 rfl rfl ?_
    refine q_s (pc' := 14) (ls' := [vR 116, vI l1, vI l2]) (st' := [vI l2, vR 116]) (g' := g) k36_13 rfl rfl ?_
    refine q_callI (ls0 := [vR 116, vI l2]) (rest := []) (pc' := 17) rfl k36_14 rfl (hy4 rfl rfl rfl rfl) rfl rfl hq_26 rfl (fun q2 => ?_)
    refine q_if (P := q2.1 = 0) (t := 32) (pc' := 20) k36_17 Iff.rfl rfl rfl (fun h3 => ?_) (fun h3 => ?_)
    · refine q_s (pc' := 33) (ls' := [vR 116, vI l1, vI l2]) (st' := [vI l1]) (g' := q2.2) k36_32 rfl rfl ?_
      refine q_s (pc' := 34) (ls' := [vR 116, vI l1, vI l2]) (st' := []) (g' := q2.2) k36_33 rfl rfl ?_
      refine q_s (pc' := 37) (ls' := [vR 116, vI l1, vI (iw (l2 + 1))]) (st' := []) (g' := q2.2) k36_34 rfl rfl ?_
      refine q_s (pc' := 4) (ls' := [vR 116, vI l1, vI (iw (l2 + 1))]) (st' := []) (g' := q2.2) k36_37 rfl rfl ?_
      rfl
    · refine q_s (pc' := 21) (ls' := [vR 116, vI l1, vI l2]) (st' := [vI l1]) (g' := q2.2) k36_20 rfl rfl ?_
      refine q_s (pc' := 22) (ls' := [vR 116, vI l1, vI l2]) (st' := [vR 116, vI l1]) (g' := q2.2) k36_21 rfl rfl ?_
      refine q_s (pc' := 23) (ls' := [vR 116, vI l1, vI l2]) (st' := [vI l2, vR 116, vI l1]) (g' := q2.2) k36_22 rfl rfl ?_
      refine q_callI (ls0 := [vR 116, vI l2, vU, vU]) (rest := [vI l1]) (pc' := 26) rfl k36_23 rfl (hy4 rfl rfl rfl rfl) rfl rfl hq_33 rfl (fun q4 => ?_)
      refine q_s (pc' := 29) (ls' := [vR 116, vI l1, vI l2]) (st' := [vI (if l1 < q4.1 then q4.1 else l1)]) (g' := q4.2) k36_26 rfl rfl ?_
      refine q_s (pc' := 33) (ls' := [vR 116, vI l1, vI l2]) (st' := [vI (if l1 < q4.1 then q4.1 else l1)]) (g' := q4.2) k36_29 rfl rfl ?_
      refine q_s (pc' := 34) (ls' := [vR 116, vI (if l1 < q4.1 then q4.1 else l1), vI l2]) (st' := []) (g' := q4.2) k36_33 rfl rfl ?_
      refine q_s (pc' := 37) (ls' := [vR 116, vI (if l1 < q4.1 then q4.1 else l1), vI (iw (l2 + 1))]) (st' := []) (g' := q4.2) k36_34 rfl rfl ?_
      refine q_s (pc' := 4) (ls' := [vR 116, vI (if l1 < q4.1 then q4.1 else l1), vI (iw (l2 + 1))]) (st' := []) (g' := q4.2) k36_37 rfl rfl ?_
      rfl
set_option maxHeartbeats 4000000 in
theorem jHo_countOpenOutsideRings_eq (L : Nat) (g : AMem) : jHo_countOpenOutsideRings L g = (jHo_countInRingsOf L 0 g).bind (fun q1 => some (q1.1, q1.2)) := by
  unfold jHo_countOpenOutsideRings
  refine q_s (pc' := 1) (ls' := [vR 116]) (st' := [vR 116]) (g' := g) k37_0 rfl rfl ?_
  refine q_s (pc' := 2) (ls' := [vR 116]) (st' := [vI 0, vR 116]) (g' := g) k37_1 rfl rfl ?_
  refine q_callI (ls0 := [vR 116, vI 0, vU, vU]) (rest := []) (pc' := 5) rfl k37_2 rfl (hy4 rfl rfl rfl rfl) rfl rfl hq_34 rfl (fun q1 => ?_)
  exact q_e k37_5 rfl rfl rfl
set_option maxHeartbeats 4000000 in
theorem jMe_fillBy_eq (L : Nat) (a2 : Int) (g : AMem) : jMe_fillBy L a2 g = (jDi_start L a2 g).bind (fun q1 => jMe_fillBy_7 L a2 0 q1) := by
  unfold jMe_fillBy
  refine q_s (pc' := 1) (ls' := [vR 132, vR 135, vI a2, vU]) (st' := [vR 135]) (g' := g) k39_0 rfl rfl ?_
  refine q_s (pc' := 2) (ls' := [vR 132, vR 135, vI a2, vU]) (st' := [vI a2, vR 135]) (g' := g) k39_1 rfl rfl ?_
  refine q_callV (ls0 := [vR 135, vI a2]) (rest := []) (pc' := 5) rfl k39_2 rfl (hy4 rfl rfl rfl rfl) rfl rfl hq_7 rfl (fun q1 => ?_)
  refine q_s (pc' := 6) (ls' := [vR 132, vR 135, vI a2, vU]) (st' := [vI 0]) (g' := q1) k39_5 rfl rfl ?_
  refine q_s (pc' := 7) (ls' := [vR 132, vR 135, vI a2, vI 0]) (st' := []) (g' := q1) k39_6 rfl rfl ?_
  rfl
set_option maxHeartbeats 4000000 in
theorem jMe_fillBy_7_eq (L : Nat) (l2 : Int) (l3 : Int) (g : AMem) : jMe_fillBy_7 L l2 l3 g = if 32 ≤ l3 then (some g) else ((jDi_nextBelow L 256 g).bind (fun q3 => if 0 ≤ l3 ∧ l3 < 36 then (jMe_fillBy_7 L l2 (iw (l3 + 1)) (up q3.2 133 l3 q3.1)) else none)) := by
  unfold jMe_fillBy_7
  refine q_s (pc' := 8) (ls' := [vR 132, vR 135, vI l2, vI l3]) (st' := [vI l3]) (g' := g) k39_7 rfl rfl ?_
  refine q_s (pc' := 10) (ls' := [vR 132, vR 135, vI l2, vI l3]) (st' := [vI 32, vI l3]) (g' := g) k39_8 rfl rfl ?_
  refine q_ic (P := 32 ≤ l3) (t := 32) (pc' := 13) k39_10 Iff.rfl rfl rfl (fun h2 => ?_) (fun h2 => ?_)
  · exact q_e k39_32 rfl rfl rfl
  · refine q_s (pc' := 14) (ls' := [vR 132, vR 135, vI l2, vI l3]) (st' := [vR 132]) (g' := g) k39_13 rfl rfl ?_
    refine q_getF (r := 133) (pc' := 17) k39_14 rfl rfl rfl rfl ?_
    refine q_s (pc' := 18) (ls' := [vR 132, vR 135, vI l2, vI l3]) (st' := [vI l3, vR 133]) (g' := g) k39_17 rfl rfl ?_
    refine q_s (pc' := 19) (ls' := [vR 132, vR 135, vI l2, vI l3]) (st' := [vR 135, vI l3, vR 133]) (g' := g) k39_18 rfl rfl ?_
    refine q_s (pc' := 22) (ls' := [vR 132, vR 135, vI l2, vI l3]) (st' := [vI 256, vR 135, vI l3, vR 133]) (g' := g) k39_19 rfl rfl ?_
    refine q_callI (ls0 := [vR 135, vI 256]) (rest := [vI l3, vR 133]) (pc' := 25) rfl k39_22 rfl (hy4 rfl rfl rfl rfl) rfl rfl hq_8 rfl (fun q3 => ?_)
    refine q_iast (n := 36) (pc' := 26) rfl k39_25 rfl (by decide) rfl (fun h4 => ?_)
    refine q_s (pc' := 29) (ls' := [vR 132, vR 135, vI l2, vI (iw (l3 + 1))]) (st' := []) (g' := up q3.2 133 l3 q3.1) k39_26 rfl rfl ?_
    refine q_s (pc' := 7) (ls' := [vR 132, vR 135, vI l2, vI (iw (l3 + 1))]) (st' := []) (g' := up q3.2 133 l3 q3.1) k39_29 rfl rfl ?_
    rfl
set_option maxHeartbeats 4000000 in
theorem jMe_copy_eq (L : Nat) (a1 : Int) (a2 : Int) (a3 : Int) (g : AMem) (ha_a1 : 2 ≤ a1) : jMe_copy L a1 a2 a3 g = (jRg_width L a3 g).bind (fun q1 => jMe_copy_9 L a1 a2 a3 q1.1 0 q1.2) := by
  unfold jMe_copy
  refine q_s (pc' := 1) (ls' := [vR 132, vR a1, vI a2, vI a3, vU, vU]) (st' := [vI a3]) (g' := g) k40_0 rfl rfl ?_
  refine q_callI (ls0 := [vI a3]) (rest := []) (pc' := 4) rfl k40_1 rfl (hy4 rfl rfl rfl rfl) rfl rfl hq_2 rfl (fun q1 => ?_)
  refine q_s (pc' := 6) (ls' := [vR 132, vR a1, vI a2, vI a3, vI q1.1, vU]) (st' := []) (g' := q1.2) k40_4 rfl rfl ?_
  refine q_s (pc' := 7) (ls' := [vR 132, vR a1, vI a2, vI a3, vI q1.1, vU]) (st' := [vI 0]) (g' := q1.2) k40_6 rfl rfl ?_
  refine q_s (pc' := 9) (ls' := [vR 132, vR a1, vI a2, vI a3, vI q1.1, vI 0]) (st' := []) (g' := q1.2) k40_7 rfl rfl ?_
  rfl
set_option maxHeartbeats 4000000 in
theorem jMe_copy_9_eq (L : Nat) (a1 : Int) (l2 : Int) (l3 : Int) (l4 : Int) (l5 : Int) (g : AMem) (ha_a1 : 2 ≤ a1) : jMe_copy_9 L a1 l2 l3 l4 l5 g = if l4 ≤ l5 then (some g) else ((jRg_firstByte L l3 g).bind (fun q3 => (jRg_firstByte L l2 q3.2).bind (fun q4 => if 0 ≤ iw (q4.1 + l5) ∧ iw (q4.1 + l5) < aln (SH L) a1 then (if 0 ≤ iw (q3.1 + l5) ∧ iw (q3.1 + l5) < 36 then (jMe_copy_9 L a1 l2 l3 l4 (iw (l5 + 1)) (up q4.2 133 (iw (q3.1 + l5)) (q4.2 a1 (iw (q4.1 + l5))))) else none) else none))) := by
  unfold jMe_copy_9
  refine q_s (pc' := 11) (ls' := [vR 132, vR a1, vI l2, vI l3, vI l4, vI l5]) (st' := [vI l5]) (g' := g) k40_9 rfl rfl ?_
  refine q_s (pc' := 13) (ls' := [vR 132, vR a1, vI l2, vI l3, vI l4, vI l5]) (st' := [vI l4, vI l5]) (g' := g) k40_11 rfl rfl ?_
  refine q_ic (P := l4 ≤ l5) (t := 43) (pc' := 16) k40_13 Iff.rfl rfl rfl (fun h2 => ?_) (fun h2 => ?_)
  · exact q_e k40_43 rfl rfl rfl
  · refine q_s (pc' := 17) (ls' := [vR 132, vR a1, vI l2, vI l3, vI l4, vI l5]) (st' := [vR 132]) (g' := g) k40_16 rfl rfl ?_
    refine q_getF (r := 133) (pc' := 20) k40_17 rfl rfl rfl rfl ?_
    refine q_s (pc' := 21) (ls' := [vR 132, vR a1, vI l2, vI l3, vI l4, vI l5]) (st' := [vI l3, vR 133]) (g' := g) k40_20 rfl rfl ?_
    refine q_callI (ls0 := [vI l3]) (rest := [vR 133]) (pc' := 24) rfl k40_21 rfl (hy4 rfl rfl rfl rfl) rfl rfl hq_1 rfl (fun q3 => ?_)
    refine q_s (pc' := 26) (ls' := [vR 132, vR a1, vI l2, vI l3, vI l4, vI l5]) (st' := [vI l5, vI q3.1, vR 133]) (g' := q3.2) k40_24 rfl rfl ?_
    refine q_s (pc' := 27) (ls' := [vR 132, vR a1, vI l2, vI l3, vI l4, vI l5]) (st' := [vI (iw (q3.1 + l5)), vR 133]) (g' := q3.2) k40_26 rfl rfl ?_
    refine q_ldR_n (pc' := 28) k40_27 rfl rfl (by have := ha_a1; omega) ?_
    refine q_s (pc' := 29) (ls' := [vR 132, vR a1, vI l2, vI l3, vI l4, vI l5]) (st' := [vI l2, vR a1, vI (iw (q3.1 + l5)), vR 133]) (g' := q3.2) k40_28 rfl rfl ?_
    refine q_callI (ls0 := [vI l2]) (rest := [vR a1, vI (iw (q3.1 + l5)), vR 133]) (pc' := 32) rfl k40_29 rfl (hy4 rfl rfl rfl rfl) rfl rfl hq_1 rfl (fun q4 => ?_)
    refine q_s (pc' := 34) (ls' := [vR 132, vR a1, vI l2, vI l3, vI l4, vI l5]) (st' := [vI l5, vI q4.1, vR a1, vI (iw (q3.1 + l5)), vR 133]) (g' := q4.2) k40_32 rfl rfl ?_
    refine q_s (pc' := 35) (ls' := [vR 132, vR a1, vI l2, vI l3, vI l4, vI l5]) (st' := [vI (iw (q4.1 + l5)), vR a1, vI (iw (q3.1 + l5)), vR 133]) (g' := q4.2) k40_34 rfl rfl ?_
    refine q_iald (n := aln (SH L) a1) (pc' := 36) rfl k40_35 rfl rfl (fun h5 => ?_)
    refine q_iast (n := 36) (pc' := 37) rfl k40_36 rfl (by decide) rfl (fun h6 => ?_)
    refine q_s (pc' := 40) (ls' := [vR 132, vR a1, vI l2, vI l3, vI l4, vI (iw (l5 + 1))]) (st' := []) (g' := up q4.2 133 (iw (q3.1 + l5)) (q4.2 a1 (iw (q4.1 + l5)))) k40_37 rfl rfl ?_
    refine q_s (pc' := 9) (ls' := [vR 132, vR a1, vI l2, vI l3, vI l4, vI (iw (l5 + 1))]) (st' := []) (g' := up q4.2 133 (iw (q3.1 + l5)) (q4.2 a1 (iw (q4.1 + l5)))) k40_40 rfl rfl ?_
    rfl
set_option maxHeartbeats 4000000 in
theorem jMe_put_eq (L : Nat) (a1 : Int) (a2 : Int) (g : AMem) : jMe_put L a1 a2 g = jMe_put_7 L a1 a2 (iw ((-1) - a1)) 0 g := by
  unfold jMe_put
  refine q_s (pc' := 1) (ls' := [vR 132, vI a1, vI a2, vU, vU]) (st' := [vI (-1)]) (g' := g) k41_0 rfl rfl ?_
  refine q_s (pc' := 2) (ls' := [vR 132, vI a1, vI a2, vU, vU]) (st' := [vI a1, vI (-1)]) (g' := g) k41_1 rfl rfl ?_
  refine q_s (pc' := 3) (ls' := [vR 132, vI a1, vI a2, vU, vU]) (st' := [vI (iw ((-1) - a1))]) (g' := g) k41_2 rfl rfl ?_
  refine q_s (pc' := 4) (ls' := [vR 132, vI a1, vI a2, vI (iw ((-1) - a1)), vU]) (st' := []) (g' := g) k41_3 rfl rfl ?_
  refine q_s (pc' := 5) (ls' := [vR 132, vI a1, vI a2, vI (iw ((-1) - a1)), vU]) (st' := [vI 0]) (g' := g) k41_4 rfl rfl ?_
  refine q_s (pc' := 7) (ls' := [vR 132, vI a1, vI a2, vI (iw ((-1) - a1)), vI 0]) (st' := []) (g' := g) k41_5 rfl rfl ?_
  rfl
set_option maxHeartbeats 4000000 in
theorem jMe_put_7_eq (L : Nat) (l1 : Int) (l2 : Int) (l3 : Int) (l4 : Int) (g : AMem) : jMe_put_7 L l1 l2 l3 l4 g = (jRg_width L l2 g).bind (fun q1 => if q1.1 ≤ l4 then (some q1.2) else ((jRg_firstByte L l2 q1.2).bind (fun q3 => if 0 ≤ iw (q3.1 + l4) ∧ iw (q3.1 + l4) < 36 then (jMe_put_7 L l1 l2 (iw (l3.tdiv 256)) (iw (l4 + 1)) (up q3.2 133 (iw (q3.1 + l4)) (iw (l3 - l3.tdiv 256 * 256)))) else none))) := by
  unfold jMe_put_7
  refine q_s (pc' := 9) (ls' := [vR 132, vI l1, vI l2, vI l3, vI l4]) (st' := [vI l4]) (g' := g) k41_7 rfl rfl ?_
  refine q_s (pc' := 10) (ls' := [vR 132, vI l1, vI l2, vI l3, vI l4]) (st' := [vI l2, vI l4]) (g' := g) k41_9 rfl rfl ?_
  refine q_callI (ls0 := [vI l2]) (rest := [vI l4]) (pc' := 13) rfl k41_10 rfl (hy4 rfl rfl rfl rfl) rfl rfl hq_2 rfl (fun q1 => ?_)
  refine q_ic (P := q1.1 ≤ l4) (t := 45) (pc' := 16) k41_13 Iff.rfl rfl rfl (fun h2 => ?_) (fun h2 => ?_)
  · exact q_e k41_45 rfl rfl rfl
  · refine q_s (pc' := 17) (ls' := [vR 132, vI l1, vI l2, vI l3, vI l4]) (st' := [vR 132]) (g' := q1.2) k41_16 rfl rfl ?_
    refine q_getF (r := 133) (pc' := 20) k41_17 rfl rfl rfl rfl ?_
    refine q_s (pc' := 21) (ls' := [vR 132, vI l1, vI l2, vI l3, vI l4]) (st' := [vI l2, vR 133]) (g' := q1.2) k41_20 rfl rfl ?_
    refine q_callI (ls0 := [vI l2]) (rest := [vR 133]) (pc' := 24) rfl k41_21 rfl (hy4 rfl rfl rfl rfl) rfl rfl hq_1 rfl (fun q3 => ?_)
    refine q_s (pc' := 26) (ls' := [vR 132, vI l1, vI l2, vI l3, vI l4]) (st' := [vI l4, vI q3.1, vR 133]) (g' := q3.2) k41_24 rfl rfl ?_
    refine q_s (pc' := 27) (ls' := [vR 132, vI l1, vI l2, vI l3, vI l4]) (st' := [vI (iw (q3.1 + l4)), vR 133]) (g' := q3.2) k41_26 rfl rfl ?_
    refine q_s (pc' := 28) (ls' := [vR 132, vI l1, vI l2, vI l3, vI l4]) (st' := [vI l3, vI (iw (q3.1 + l4)), vR 133]) (g' := q3.2) k41_27 rfl rfl ?_
    refine q_s (pc' := 31) (ls' := [vR 132, vI l1, vI l2, vI l3, vI l4]) (st' := [vI 256, vI l3, vI (iw (q3.1 + l4)), vR 133]) (g' := q3.2) k41_28 rfl rfl ?_
    refine q_s (pc' := 32) (ls' := [vR 132, vI l1, vI l2, vI l3, vI l4]) (st' := [vI (iw (l3 - l3.tdiv 256 * 256)), vI (iw (q3.1 + l4)), vR 133]) (g' := q3.2) k41_31 rfl rfl ?_
    refine q_iast (n := 36) (pc' := 33) rfl k41_32 rfl (by decide) rfl (fun h4 => ?_)
    refine q_s (pc' := 34) (ls' := [vR 132, vI l1, vI l2, vI l3, vI l4]) (st' := [vI l3]) (g' := up q3.2 133 (iw (q3.1 + l4)) (iw (l3 - l3.tdiv 256 * 256))) k41_33 rfl rfl ?_
    refine q_s (pc' := 37) (ls' := [vR 132, vI l1, vI l2, vI l3, vI l4]) (st' := [vI 256, vI l3]) (g' := up q3.2 133 (iw (q3.1 + l4)) (iw (l3 - l3.tdiv 256 * 256))) k41_34 rfl rfl ?_
    refine q_s (pc' := 38) (ls' := [vR 132, vI l1, vI l2, vI l3, vI l4]) (st' := [vI (iw (l3.tdiv 256))]) (g' := up q3.2 133 (iw (q3.1 + l4)) (iw (l3 - l3.tdiv 256 * 256))) k41_37 rfl rfl ?_
    refine q_s (pc' := 39) (ls' := [vR 132, vI l1, vI l2, vI (iw (l3.tdiv 256)), vI l4]) (st' := []) (g' := up q3.2 133 (iw (q3.1 + l4)) (iw (l3 - l3.tdiv 256 * 256))) k41_38 rfl rfl ?_
    refine q_s (pc' := 42) (ls' := [vR 132, vI l1, vI l2, vI (iw (l3.tdiv 256)), vI (iw (l4 + 1))]) (st' := []) (g' := up q3.2 133 (iw (q3.1 + l4)) (iw (l3 - l3.tdiv 256 * 256))) k41_39 rfl rfl ?_
    refine q_s (pc' := 7) (ls' := [vR 132, vI l1, vI l2, vI (iw (l3.tdiv 256)), vI (iw (l4 + 1))]) (st' := []) (g' := up q3.2 133 (iw (q3.1 + l4)) (iw (l3 - l3.tdiv 256 * 256))) k41_42 rfl rfl ?_
    rfl
set_option maxHeartbeats 4000000 in
theorem jMe_exchange_eq (L : Nat) (a1 : Int) (a2 : Int) (g : AMem) : jMe_exchange L a1 a2 g = if 0 ≤ (36 : Int) ∧ (36 : Int) ≤ 36 then ((jMe_copy L 134 a2 a1 (cpy g 133 0 134 0 36)).bind (fun q2 => (jMe_copy L 134 a1 a2 q2).bind (fun q3 => some q3))) else none := by
  unfold jMe_exchange
  refine q_s (pc' := 1) (ls' := [vR 132, vI a1, vI a2]) (st' := [vR 132]) (g' := g) k42_0 rfl rfl ?_
  refine q_getF (r := 133) (pc' := 4) k42_1 rfl rfl rfl rfl ?_
  refine q_s (pc' := 5) (ls' := [vR 132, vI a1, vI a2]) (st' := [vI 0, vR 133]) (g' := g) k42_4 rfl rfl ?_
  refine q_s (pc' := 6) (ls' := [vR 132, vI a1, vI a2]) (st' := [vR 132, vI 0, vR 133]) (g' := g) k42_5 rfl rfl ?_
  refine q_getF (r := 134) (pc' := 9) k42_6 rfl rfl rfl rfl ?_
  refine q_s (pc' := 10) (ls' := [vR 132, vI a1, vI a2]) (st' := [vI 0, vR 134, vI 0, vR 133]) (g' := g) k42_9 rfl rfl ?_
  refine q_s (pc' := 12) (ls' := [vR 132, vI a1, vI a2]) (st' := [vI 36, vI 0, vR 134, vI 0, vR 133]) (g' := g) k42_10 rfl rfl ?_
  refine q_acpy (N := 36) (pc' := 15) rfl k42_12 rfl rfl rfl rfl rfl (fun h1 => ?_)
  refine q_s (pc' := 16) (ls' := [vR 132, vI a1, vI a2]) (st' := [vR 132]) (g' := cpy g 133 0 134 0 36) k42_15 rfl rfl ?_
  refine q_s (pc' := 17) (ls' := [vR 132, vI a1, vI a2]) (st' := [vR 132, vR 132]) (g' := cpy g 133 0 134 0 36) k42_16 rfl rfl ?_
  refine q_getF (r := 134) (pc' := 20) k42_17 rfl rfl rfl rfl ?_
  refine q_s (pc' := 21) (ls' := [vR 132, vI a1, vI a2]) (st' := [vI a2, vR 134, vR 132]) (g' := cpy g 133 0 134 0 36) k42_20 rfl rfl ?_
  refine q_s (pc' := 22) (ls' := [vR 132, vI a1, vI a2]) (st' := [vI a1, vI a2, vR 134, vR 132]) (g' := cpy g 133 0 134 0 36) k42_21 rfl rfl ?_
  refine q_callV (ls0 := [vR 132, vR 134, vI a2, vI a1, vU, vU]) (rest := []) (pc' := 25) rfl k42_22 rfl (hy4 rfl rfl rfl rfl) rfl rfl hq_40 rfl (fun q2 => ?_)
  refine q_s (pc' := 26) (ls' := [vR 132, vI a1, vI a2]) (st' := [vR 132]) (g' := q2) k42_25 rfl rfl ?_
  refine q_s (pc' := 27) (ls' := [vR 132, vI a1, vI a2]) (st' := [vR 132, vR 132]) (g' := q2) k42_26 rfl rfl ?_
  refine q_getF (r := 134) (pc' := 30) k42_27 rfl rfl rfl rfl ?_
  refine q_s (pc' := 31) (ls' := [vR 132, vI a1, vI a2]) (st' := [vI a1, vR 134, vR 132]) (g' := q2) k42_30 rfl rfl ?_
  refine q_s (pc' := 32) (ls' := [vR 132, vI a1, vI a2]) (st' := [vI a2, vI a1, vR 134, vR 132]) (g' := q2) k42_31 rfl rfl ?_
  refine q_callV (ls0 := [vR 132, vR 134, vI a1, vI a2, vU, vU]) (rest := []) (pc' := 35) rfl k42_32 rfl (hy4 rfl rfl rfl rfl) rfl rfl hq_40 rfl (fun q3 => ?_)
  exact q_e k42_35 rfl rfl rfl
set_option maxHeartbeats 4000000 in
theorem jMe_handOver_eq (L : Nat) (t1 : Int) (t2 : Int) (g : AMem) (ht1 : kin (SH L) t1 = 0) (ht2 : kin (SH L) t2 = 2) : jMe_handOver L t1 t2 g = if 0 ≤ (36 : Int) ∧ (36 : Int) ≤ 36 then (jMe_handOver_17 L t1 t2 0 (cpy g 133 0 134 0 36)) else none := by
  unfold jMe_handOver
  refine q_s (pc' := 1) (ls' := [vR 132, vR t1, vR t2, vU]) (st' := [vR 132]) (g' := g) k43_0 rfl rfl ?_
  refine q_getF (r := 133) (pc' := 4) k43_1 rfl rfl rfl rfl ?_
  refine q_s (pc' := 5) (ls' := [vR 132, vR t1, vR t2, vU]) (st' := [vI 0, vR 133]) (g' := g) k43_4 rfl rfl ?_
  refine q_s (pc' := 6) (ls' := [vR 132, vR t1, vR t2, vU]) (st' := [vR 132, vI 0, vR 133]) (g' := g) k43_5 rfl rfl ?_
  refine q_getF (r := 134) (pc' := 9) k43_6 rfl rfl rfl rfl ?_
  refine q_s (pc' := 10) (ls' := [vR 132, vR t1, vR t2, vU]) (st' := [vI 0, vR 134, vI 0, vR 133]) (g' := g) k43_9 rfl rfl ?_
  refine q_s (pc' := 12) (ls' := [vR 132, vR t1, vR t2, vU]) (st' := [vI 36, vI 0, vR 134, vI 0, vR 133]) (g' := g) k43_10 rfl rfl ?_
  refine q_acpy (N := 36) (pc' := 15) rfl k43_12 rfl rfl rfl rfl rfl (fun h1 => ?_)
  refine q_s (pc' := 16) (ls' := [vR 132, vR t1, vR t2, vU]) (st' := [vI 0]) (g' := cpy g 133 0 134 0 36) k43_15 rfl rfl ?_
  refine q_s (pc' := 17) (ls' := [vR 132, vR t1, vR t2, vI 0]) (st' := []) (g' := cpy g 133 0 134 0 36) k43_16 rfl rfl ?_
  rfl
set_option maxHeartbeats 4000000 in
theorem jMe_handOver_17_eq (L : Nat) (t1 : Int) (t2 : Int) (l3 : Int) (g : AMem) (ht1 : kin (SH L) t1 = 0) (ht2 : kin (SH L) t2 = 2) : jMe_handOver_17 L t1 t2 l3 g = if g t1 1 ≤ l3 then (some g) else (if 0 ≤ l3 ∧ l3 < 6 then (if 0 ≤ g (t2 + 1) l3 then (if 0 ≤ l3 ∧ l3 < 6 then (if 0 ≤ l3 ∧ l3 < 6 then ((jMe_copy L 134 (g (t2 + 1) l3) (g (t1 + 1) l3) g).bind (fun q7 => jMe_handOver_17 L t1 t2 (iw (l3 + 1)) q7)) else none) else none) else (if 0 ≤ l3 ∧ l3 < 6 then (if 0 ≤ l3 ∧ l3 < 6 then ((jMe_put L (g (t2 + 1) l3) (g (t1 + 1) l3) g).bind (fun q10 => jMe_handOver_17 L t1 t2 (iw (l3 + 1)) q10)) else none) else none)) else none) := by
  unfold jMe_handOver_17
  refine q_s (pc' := 18) (ls' := [vR 132, vR t1, vR t2, vI l3]) (st' := [vI l3]) (g' := g) k43_17 rfl rfl ?_
  refine q_ldR_n (pc' := 19) k43_18 rfl rfl (by have := (k2 ht1 (by decide)); omega) ?_
  refine q_getI (w := 1) (pc' := 22) k43_19 ht1 rfl rfl rfl ?_
  refine q_ic (P := g t1 1 ≤ l3) (t := 79) (pc' := 25) k43_22 Iff.rfl rfl rfl (fun h2 => ?_) (fun h2 => ?_)
  · exact q_e k43_79 rfl rfl rfl
  · refine q_ldR_n (pc' := 26) k43_25 rfl rfl (by have := (k2 ht2 (by decide)); omega) ?_
    refine q_getF (r := t2 + 1) (pc' := 29) k43_26 ht2 rfl (kE ht2).1 rfl ?_
    refine q_s (pc' := 30) (ls' := [vR 132, vR t1, vR t2, vI l3]) (st' := [vI l3, vR (t2 + 1)]) (g' := g) k43_29 rfl rfl ?_
    refine q_iald (n := 6) (pc' := 31) rfl k43_30 (kE ht2).2 rfl (fun h3 => ?_)
    refine q_if (P := 0 ≤ g (t2 + 1) l3) (t := 53) (pc' := 34) k43_31 Iff.rfl rfl rfl (fun h4 => ?_) (fun h4 => ?_)
    · refine q_s (pc' := 54) (ls' := [vR 132, vR t1, vR t2, vI l3]) (st' := [vR 132]) (g' := g) k43_53 rfl rfl ?_
      refine q_s (pc' := 55) (ls' := [vR 132, vR t1, vR t2, vI l3]) (st' := [vR 132, vR 132]) (g' := g) k43_54 rfl rfl ?_
      refine q_getF (r := 134) (pc' := 58) k43_55 rfl rfl rfl rfl ?_
      refine q_ldR_n (pc' := 59) k43_58 rfl rfl (by have := (k2 ht2 (by decide)); omega) ?_
      refine q_getF (r := t2 + 1) (pc' := 62) k43_59 ht2 rfl (kE ht2).1 rfl ?_
      refine q_s (pc' := 63) (ls' := [vR 132, vR t1, vR t2, vI l3]) (st' := [vI l3, vR (t2 + 1), vR 134, vR 132]) (g' := g) k43_62 rfl rfl ?_
      refine q_iald (n := 6) (pc' := 64) rfl k43_63 (kE ht2).2 rfl (fun h5 => ?_)
      refine q_ldR_n (pc' := 65) k43_64 rfl rfl (by have := (k2 ht1 (by decide)); omega) ?_
      refine q_getF (r := t1 + 1) (pc' := 68) k43_65 ht1 rfl (kB ht1).1 rfl ?_
      refine q_s (pc' := 69) (ls' := [vR 132, vR t1, vR t2, vI l3]) (st' := [vI l3, vR (t1 + 1), vI (g (t2 + 1) l3), vR 134, vR 132]) (g' := g) k43_68 rfl rfl ?_
      refine q_iald (n := 6) (pc' := 70) rfl k43_69 (kB ht1).2 rfl (fun h6 => ?_)
      refine q_callV (ls0 := [vR 132, vR 134, vI (g (t2 + 1) l3), vI (g (t1 + 1) l3), vU, vU]) (rest := []) (pc' := 73) rfl k43_70 rfl (hy4 rfl rfl rfl rfl) rfl rfl hq_40 rfl (fun q7 => ?_)
      refine q_s (pc' := 76) (ls' := [vR 132, vR t1, vR t2, vI (iw (l3 + 1))]) (st' := []) (g' := q7) k43_73 rfl rfl ?_
      refine q_s (pc' := 17) (ls' := [vR 132, vR t1, vR t2, vI (iw (l3 + 1))]) (st' := []) (g' := q7) k43_76 rfl rfl ?_
      rfl
    · refine q_s (pc' := 35) (ls' := [vR 132, vR t1, vR t2, vI l3]) (st' := [vR 132]) (g' := g) k43_34 rfl rfl ?_
      refine q_ldR_n (pc' := 36) k43_35 rfl rfl (by have := (k2 ht2 (by decide)); omega) ?_
      refine q_getF (r := t2 + 1) (pc' := 39) k43_36 ht2 rfl (kE ht2).1 rfl ?_
      refine q_s (pc' := 40) (ls' := [vR 132, vR t1, vR t2, vI l3]) (st' := [vI l3, vR (t2 + 1), vR 132]) (g' := g) k43_39 rfl rfl ?_
      refine q_iald (n := 6) (pc' := 41) rfl k43_40 (kE ht2).2 rfl (fun h8 => ?_)
      refine q_ldR_n (pc' := 42) k43_41 rfl rfl (by have := (k2 ht1 (by decide)); omega) ?_
      refine q_getF (r := t1 + 1) (pc' := 45) k43_42 ht1 rfl (kB ht1).1 rfl ?_
      refine q_s (pc' := 46) (ls' := [vR 132, vR t1, vR t2, vI l3]) (st' := [vI l3, vR (t1 + 1), vI (g (t2 + 1) l3), vR 132]) (g' := g) k43_45 rfl rfl ?_
      refine q_iald (n := 6) (pc' := 47) rfl k43_46 (kB ht1).2 rfl (fun h9 => ?_)
      refine q_callV (ls0 := [vR 132, vI (g (t2 + 1) l3), vI (g (t1 + 1) l3), vU, vU]) (rest := []) (pc' := 50) rfl k43_47 rfl (hy4 rfl rfl rfl rfl) rfl rfl hq_41 rfl (fun q10 => ?_)
      refine q_s (pc' := 73) (ls' := [vR 132, vR t1, vR t2, vI l3]) (st' := []) (g' := q10) k43_50 rfl rfl ?_
      refine q_s (pc' := 76) (ls' := [vR 132, vR t1, vR t2, vI (iw (l3 + 1))]) (st' := []) (g' := q10) k43_73 rfl rfl ?_
      refine q_s (pc' := 17) (ls' := [vR 132, vR t1, vR t2, vI (iw (l3 + 1))]) (st' := []) (g' := q10) k43_76 rfl rfl ?_
      rfl
set_option maxHeartbeats 4000000 in
theorem jMe_follow_eq (L : Nat) (t1 : Int) (g : AMem) (ht1 : kin (SH L) t1 = 6) : jMe_follow L t1 g = jMe_follow_2 L t1 0 g := by
  unfold jMe_follow
  refine q_s (pc' := 1) (ls' := [vR 132, vR t1, vU]) (st' := [vI 0]) (g' := g) k44_0 rfl rfl ?_
  refine q_s (pc' := 2) (ls' := [vR 132, vR t1, vI 0]) (st' := []) (g' := g) k44_1 rfl rfl ?_
  rfl
set_option maxHeartbeats 4000000 in
theorem jMe_follow_2_eq (L : Nat) (t1 : Int) (l2 : Int) (g : AMem) (ht1 : kin (SH L) t1 = 6) : jMe_follow_2 L t1 l2 g = if g t1 3 ≤ l2 then (some g) else (if 0 ≤ l2 ∧ l2 < 9 then (if g (t1 + 1) l2 ≠ 2 then (if 0 ≤ l2 ∧ l2 < 9 then (if g (t1 + 1) l2 ≠ 1 then (if 0 ≤ l2 ∧ l2 < 9 then (if 0 ≤ l2 ∧ l2 < 9 then ((jMe_copy L 133 (g (t1 + 3) l2) (g (t1 + 2) l2) g).bind (fun q8 => jMe_follow_2 L t1 (iw (l2 + 1)) q8)) else none) else none) else (if 0 ≤ l2 ∧ l2 < 9 then (if 0 ≤ l2 ∧ l2 < 9 then ((jMe_exchange L (g (t1 + 2) l2) (g (t1 + 3) l2) g).bind (fun q11 => jMe_follow_2 L t1 (iw (l2 + 1)) q11)) else none) else none)) else none) else (if 0 ≤ l2 ∧ l2 < 9 then (if 0 ≤ l2 ∧ l2 < 9 then ((jMe_put L (g (t1 + 3) l2) (g (t1 + 2) l2) g).bind (fun q14 => jMe_follow_2 L t1 (iw (l2 + 1)) q14)) else none) else none)) else none) := by
  unfold jMe_follow_2
  refine q_s (pc' := 3) (ls' := [vR 132, vR t1, vI l2]) (st' := [vI l2]) (g' := g) k44_2 rfl rfl ?_
  refine q_ldR_n (pc' := 4) k44_3 rfl rfl (by have := (k2 ht1 (by decide)); omega) ?_
  refine q_getI (w := 3) (pc' := 7) k44_4 ht1 rfl rfl rfl ?_
  refine q_ic (P := g t1 3 ≤ l2) (t := 94) (pc' := 10) k44_7 Iff.rfl rfl rfl (fun h1 => ?_) (fun h1 => ?_)
  · exact q_e k44_94 rfl rfl rfl
  · refine q_ldR_n (pc' := 11) k44_10 rfl rfl (by have := (k2 ht1 (by decide)); omega) ?_
    refine q_getF (r := t1 + 1) (pc' := 14) k44_11 ht1 rfl (kP_f ht1).1 rfl ?_
    refine q_s (pc' := 15) (ls' := [vR 132, vR t1, vI l2]) (st' := [vI l2, vR (t1 + 1)]) (g' := g) k44_14 rfl rfl ?_
    refine q_iald (n := 9) (pc' := 16) rfl k44_15 (kP_f ht1).2.2.2.2.2.1 rfl (fun h2 => ?_)
    refine q_s (pc' := 17) (ls' := [vR 132, vR t1, vI l2]) (st' := [vI 2, vI (g (t1 + 1) l2)]) (g' := g) k44_16 rfl rfl ?_
    refine q_ic (P := g (t1 + 1) l2 ≠ 2) (t := 39) (pc' := 20) k44_17 Iff.rfl rfl rfl (fun h3 => ?_) (fun h3 => ?_)
    · refine q_ldR_n (pc' := 40) k44_39 rfl rfl (by have := (k2 ht1 (by decide)); omega) ?_
      refine q_getF (r := t1 + 1) (pc' := 43) k44_40 ht1 rfl (kP_f ht1).1 rfl ?_
      refine q_s (pc' := 44) (ls' := [vR 132, vR t1, vI l2]) (st' := [vI l2, vR (t1 + 1)]) (g' := g) k44_43 rfl rfl ?_
      refine q_iald (n := 9) (pc' := 45) rfl k44_44 (kP_f ht1).2.2.2.2.2.1 rfl (fun h4 => ?_)
      refine q_s (pc' := 46) (ls' := [vR 132, vR t1, vI l2]) (st' := [vI 1, vI (g (t1 + 1) l2)]) (g' := g) k44_45 rfl rfl ?_
      refine q_ic (P := g (t1 + 1) l2 ≠ 1) (t := 68) (pc' := 49) k44_46 Iff.rfl rfl rfl (fun h5 => ?_) (fun h5 => ?_)
      · refine q_s (pc' := 69) (ls' := [vR 132, vR t1, vI l2]) (st' := [vR 132]) (g' := g) k44_68 rfl rfl ?_
        refine q_s (pc' := 70) (ls' := [vR 132, vR t1, vI l2]) (st' := [vR 132, vR 132]) (g' := g) k44_69 rfl rfl ?_
        refine q_getF (r := 133) (pc' := 73) k44_70 rfl rfl rfl rfl ?_
        refine q_ldR_n (pc' := 74) k44_73 rfl rfl (by have := (k2 ht1 (by decide)); omega) ?_
        refine q_getF (r := t1 + 3) (pc' := 77) k44_74 ht1 rfl (kP_f ht1).2.2.1 rfl ?_
        refine q_s (pc' := 78) (ls' := [vR 132, vR t1, vI l2]) (st' := [vI l2, vR (t1 + 3), vR 133, vR 132]) (g' := g) k44_77 rfl rfl ?_
        refine q_iald (n := 9) (pc' := 79) rfl k44_78 (kP_f ht1).2.2.2.2.2.2.2.1 rfl (fun h6 => ?_)
        refine q_ldR_n (pc' := 80) k44_79 rfl rfl (by have := (k2 ht1 (by decide)); omega) ?_
        refine q_getF (r := t1 + 2) (pc' := 83) k44_80 ht1 rfl (kP_f ht1).2.1 rfl ?_
        refine q_s (pc' := 84) (ls' := [vR 132, vR t1, vI l2]) (st' := [vI l2, vR (t1 + 2), vI (g (t1 + 3) l2), vR 133, vR 132]) (g' := g) k44_83 rfl rfl ?_
        refine q_iald (n := 9) (pc' := 85) rfl k44_84 (kP_f ht1).2.2.2.2.2.2.1 rfl (fun h7 => ?_)
        refine q_callV (ls0 := [vR 132, vR 133, vI (g (t1 + 3) l2), vI (g (t1 + 2) l2), vU, vU]) (rest := []) (pc' := 88) rfl k44_85 rfl (hy4 rfl rfl rfl rfl) rfl rfl hq_40 rfl (fun q8 => ?_)
        refine q_s (pc' := 91) (ls' := [vR 132, vR t1, vI (iw (l2 + 1))]) (st' := []) (g' := q8) k44_88 rfl rfl ?_
        refine q_s (pc' := 2) (ls' := [vR 132, vR t1, vI (iw (l2 + 1))]) (st' := []) (g' := q8) k44_91 rfl rfl ?_
        rfl
      · refine q_s (pc' := 50) (ls' := [vR 132, vR t1, vI l2]) (st' := [vR 132]) (g' := g) k44_49 rfl rfl ?_
        refine q_ldR_n (pc' := 51) k44_50 rfl rfl (by have := (k2 ht1 (by decide)); omega) ?_
        refine q_getF (r := t1 + 2) (pc' := 54) k44_51 ht1 rfl (kP_f ht1).2.1 rfl ?_
        refine q_s (pc' := 55) (ls' := [vR 132, vR t1, vI l2]) (st' := [vI l2, vR (t1 + 2), vR 132]) (g' := g) k44_54 rfl rfl ?_
        refine q_iald (n := 9) (pc' := 56) rfl k44_55 (kP_f ht1).2.2.2.2.2.2.1 rfl (fun h9 => ?_)
        refine q_ldR_n (pc' := 57) k44_56 rfl rfl (by have := (k2 ht1 (by decide)); omega) ?_
        refine q_getF (r := t1 + 3) (pc' := 60) k44_57 ht1 rfl (kP_f ht1).2.2.1 rfl ?_
        refine q_s (pc' := 61) (ls' := [vR 132, vR t1, vI l2]) (st' := [vI l2, vR (t1 + 3), vI (g (t1 + 2) l2), vR 132]) (g' := g) k44_60 rfl rfl ?_
        refine q_iald (n := 9) (pc' := 62) rfl k44_61 (kP_f ht1).2.2.2.2.2.2.2.1 rfl (fun h10 => ?_)
        refine q_callV (ls0 := [vR 132, vI (g (t1 + 2) l2), vI (g (t1 + 3) l2)]) (rest := []) (pc' := 65) rfl k44_62 rfl (hy4 rfl rfl rfl rfl) rfl rfl hq_42 rfl (fun q11 => ?_)
        refine q_s (pc' := 88) (ls' := [vR 132, vR t1, vI l2]) (st' := []) (g' := q11) k44_65 rfl rfl ?_
        refine q_s (pc' := 91) (ls' := [vR 132, vR t1, vI (iw (l2 + 1))]) (st' := []) (g' := q11) k44_88 rfl rfl ?_
        refine q_s (pc' := 2) (ls' := [vR 132, vR t1, vI (iw (l2 + 1))]) (st' := []) (g' := q11) k44_91 rfl rfl ?_
        rfl
    · refine q_s (pc' := 21) (ls' := [vR 132, vR t1, vI l2]) (st' := [vR 132]) (g' := g) k44_20 rfl rfl ?_
      refine q_ldR_n (pc' := 22) k44_21 rfl rfl (by have := (k2 ht1 (by decide)); omega) ?_
      refine q_getF (r := t1 + 3) (pc' := 25) k44_22 ht1 rfl (kP_f ht1).2.2.1 rfl ?_
      refine q_s (pc' := 26) (ls' := [vR 132, vR t1, vI l2]) (st' := [vI l2, vR (t1 + 3), vR 132]) (g' := g) k44_25 rfl rfl ?_
      refine q_iald (n := 9) (pc' := 27) rfl k44_26 (kP_f ht1).2.2.2.2.2.2.2.1 rfl (fun h12 => ?_)
      refine q_ldR_n (pc' := 28) k44_27 rfl rfl (by have := (k2 ht1 (by decide)); omega) ?_
      refine q_getF (r := t1 + 2) (pc' := 31) k44_28 ht1 rfl (kP_f ht1).2.1 rfl ?_
      refine q_s (pc' := 32) (ls' := [vR 132, vR t1, vI l2]) (st' := [vI l2, vR (t1 + 2), vI (g (t1 + 3) l2), vR 132]) (g' := g) k44_31 rfl rfl ?_
      refine q_iald (n := 9) (pc' := 33) rfl k44_32 (kP_f ht1).2.2.2.2.2.2.1 rfl (fun h13 => ?_)
      refine q_callV (ls0 := [vR 132, vI (g (t1 + 3) l2), vI (g (t1 + 2) l2), vU, vU]) (rest := []) (pc' := 36) rfl k44_33 rfl (hy4 rfl rfl rfl rfl) rfl rfl hq_41 rfl (fun q14 => ?_)
      refine q_s (pc' := 88) (ls' := [vR 132, vR t1, vI l2]) (st' := []) (g' := q14) k44_36 rfl rfl ?_
      refine q_s (pc' := 91) (ls' := [vR 132, vR t1, vI (iw (l2 + 1))]) (st' := []) (g' := q14) k44_88 rfl rfl ?_
      refine q_s (pc' := 2) (ls' := [vR 132, vR t1, vI (iw (l2 + 1))]) (st' := []) (g' := q14) k44_91 rfl rfl ?_
      rfl
set_option maxHeartbeats 4000000 in
theorem jMe_hash_eq (L : Nat) (g : AMem) : jMe_hash L g = jMe_hash_4 L 1 0 g := by
  unfold jMe_hash
  refine q_s (pc' := 1) (ls' := [vR 132, vU, vU, vU]) (st' := [vL 1]) (g' := g) k45_0 rfl rfl ?_
  refine q_s (pc' := 2) (ls' := [vR 132, vL 1, vU, vU]) (st' := []) (g' := g) k45_1 rfl rfl ?_
  refine q_s (pc' := 3) (ls' := [vR 132, vL 1, vU, vU]) (st' := [vI 0]) (g' := g) k45_2 rfl rfl ?_
  refine q_s (pc' := 4) (ls' := [vR 132, vL 1, vU, vI 0]) (st' := []) (g' := g) k45_3 rfl rfl ?_
  rfl
set_option maxHeartbeats 4000000 in
theorem jMe_hash_4_eq (L : Nat) (l1 : Int) (l3 : Int) (g : AMem) : jMe_hash_4 L l1 l3 g = if 32 ≤ l3 then (some (l1, g)) else (if 0 ≤ l3 ∧ l3 < 36 then (jMe_hash_4 L (lw ((lw (31 * l1)) + (g 133 l3))) (iw (l3 + 1)) g) else none) := by
  unfold jMe_hash_4
  refine q_s (pc' := 5) (ls' := [vR 132, vL l1, vU, vI l3]) (st' := [vI l3]) (g' := g) k45_4 rfl rfl ?_
  refine q_s (pc' := 7) (ls' := [vR 132, vL l1, vU, vI l3]) (st' := [vI 32, vI l3]) (g' := g) k45_5 rfl rfl ?_
  refine q_ic (P := 32 ≤ l3) (t := 30) (pc' := 10) k45_7 Iff.rfl rfl rfl (fun h1 => ?_) (fun h1 => ?_)
  · refine q_s (pc' := 31) (ls' := [vR 132, vL l1, vU, vI l3]) (st' := [vL l1]) (g' := g) k45_30 rfl rfl ?_
    exact q_e k45_31 rfl rfl rfl
  · refine q_s (pc' := 13) (ls' := [vR 132, vL l1, vU, vI l3]) (st' := [vL 31]) (g' := g) k45_10 rfl rfl ?_
    refine q_s (pc' := 14) (ls' := [vR 132, vL l1, vU, vI l3]) (st' := [vL l1, vL 31]) (g' := g) k45_13 rfl rfl ?_
    refine q_s (pc' := 15) (ls' := [vR 132, vL l1, vU, vI l3]) (st' := [vL (lw (31 * l1))]) (g' := g) k45_14 rfl rfl ?_
    refine q_s (pc' := 16) (ls' := [vR 132, vL l1, vU, vI l3]) (st' := [vR 132, vL (lw (31 * l1))]) (g' := g) k45_15 rfl rfl ?_
    refine q_getF (r := 133) (pc' := 19) k45_16 rfl rfl rfl rfl ?_
    refine q_s (pc' := 20) (ls' := [vR 132, vL l1, vU, vI l3]) (st' := [vI l3, vR 133, vL (lw (31 * l1))]) (g' := g) k45_19 rfl rfl ?_
    refine q_iald (n := 36) (pc' := 21) rfl k45_20 rfl rfl (fun h2 => ?_)
    refine q_s (pc' := 22) (ls' := [vR 132, vL l1, vU, vI l3]) (st' := [vL (g 133 l3), vL (lw (31 * l1))]) (g' := g) k45_21 rfl rfl ?_
    refine q_s (pc' := 23) (ls' := [vR 132, vL l1, vU, vI l3]) (st' := [vL (lw ((lw (31 * l1)) + (g 133 l3)))]) (g' := g) k45_22 rfl rfl ?_
    refine q_s (pc' := 24) (ls' := [vR 132, vL (lw ((lw (31 * l1)) + (g 133 l3))), vU, vI l3]) (st' := []) (g' := g) k45_23 rfl rfl ?_
    refine q_s (pc' := 27) (ls' := [vR 132, vL (lw ((lw (31 * l1)) + (g 133 l3))), vU, vI (iw (l3 + 1))]) (st' := []) (g' := g) k45_24 rfl rfl ?_
    refine q_s (pc' := 4) (ls' := [vR 132, vL (lw ((lw (31 * l1)) + (g 133 l3))), vU, vI (iw (l3 + 1))]) (st' := []) (g' := g) k45_27 rfl rfl ?_
    rfl
set_option maxHeartbeats 4000000 in
theorem jPl_openAll_eq (L : Nat) (t0 : Int) (g : AMem) (ht0 : kin (SH L) t0 = 6) : jPl_openAll L t0 g = if kin (SH L) (g 116 0) = 20 then (jPl_openAll_23 L t0 0 (up (up (up g t0 5 (g 116 0)) t0 6 ((up g t0 5 (g 116 0)) 116 2)) t0 9 0)) else none := by
  unfold jPl_openAll
  refine q_ldR_n (pc' := 1) k47_0 rfl rfl (by have := (k2 ht0 (by decide)); omega) ?_
  refine q_s (pc' := 2) (ls' := [vR t0, vR 116, vU]) (st' := [vR 116, vR t0]) (g' := g) k47_1 rfl rfl ?_
  refine q_getM (w := 0) (c := 20) (pc' := 5) rfl k47_2 rfl rfl rfl rfl rfl (fun h1 => ?_)
  refine q_putM (w := 5) (pc' := 8) k47_5 ht0 rfl rfl rfl ?_
  refine q_ldR_n (pc' := 9) k47_8 rfl rfl (by have := (k2 ht0 (by decide)); omega) ?_
  refine q_s (pc' := 10) (ls' := [vR t0, vR 116, vU]) (st' := [vR 116, vR t0]) (g' := up g t0 5 (g 116 0)) k47_9 rfl rfl ?_
  refine q_getI (w := 2) (pc' := 13) k47_10 rfl rfl rfl rfl ?_
  refine q_putI (w := 6) (pc' := 16) k47_13 ht0 rfl rfl rfl ?_
  refine q_ldR_n (pc' := 17) k47_16 rfl rfl (by have := (k2 ht0 (by decide)); omega) ?_
  refine q_s (pc' := 18) (ls' := [vR t0, vR 116, vU]) (st' := [vI 0, vR t0]) (g' := up (up g t0 5 (g 116 0)) t0 6 ((up g t0 5 (g 116 0)) 116 2)) k47_17 rfl rfl ?_
  refine q_putI (w := 9) (pc' := 21) k47_18 ht0 rfl rfl rfl ?_
  refine q_s (pc' := 22) (ls' := [vR t0, vR 116, vU]) (st' := [vI 0]) (g' := up (up (up g t0 5 (g 116 0)) t0 6 ((up g t0 5 (g 116 0)) 116 2)) t0 9 0) k47_21 rfl rfl ?_
  refine q_s (pc' := 23) (ls' := [vR t0, vR 116, vI 0]) (st' := []) (g' := up (up (up g t0 5 (g 116 0)) t0 6 ((up g t0 5 (g 116 0)) 116 2)) t0 9 0) k47_22 rfl rfl ?_
  rfl
set_option maxHeartbeats 4000000 in
theorem jPl_openAll_23_eq (L : Nat) (t0 : Int) (l2 : Int) (g : AMem) (ht0 : kin (SH L) t0 = 6) : jPl_openAll_23 L t0 l2 g = if g t0 6 ≤ l2 then (some g) else (if kin (SH L) (g 116 1) = 20 then (if 0 ≤ l2 ∧ l2 < aln (SH L) (g 116 1) then (if 0 ≤ l2 ∧ l2 < 6 then ((jHo_isOpen L l2 (up g (t0 + 5) l2 (g (g 116 1) l2))).bind (fun q6 => if (0 ≤ l2 ∧ l2 < 6) ∧ (q6.1 = 0 ∨ q6.1 = 1) then (if 0 ≤ l2 ∧ l2 < 6 then (if (up q6.2 (t0 + 6) l2 q6.1) (t0 + 6) l2 = 0 then (jPl_openAll_23 L t0 (iw (l2 + 1)) (up (up q6.2 (t0 + 6) l2 q6.1) t0 9 (iw (((up q6.2 (t0 + 6) l2 q6.1) t0 9) + 0)))) else (jPl_openAll_23 L t0 (iw (l2 + 1)) (up (up q6.2 (t0 + 6) l2 q6.1) t0 9 (iw (((up q6.2 (t0 + 6) l2 q6.1) t0 9) + 1))))) else none) else none)) else none) else none) else none) := by
  unfold jPl_openAll_23
  refine q_s (pc' := 24) (ls' := [vR t0, vR 116, vI l2]) (st' := [vI l2]) (g' := g) k47_23 rfl rfl ?_
  refine q_ldR_n (pc' := 25) k47_24 rfl rfl (by have := (k2 ht0 (by decide)); omega) ?_
  refine q_getI (w := 6) (pc' := 28) k47_25 ht0 rfl rfl rfl ?_
  refine q_ic (P := g t0 6 ≤ l2) (t := 83) (pc' := 31) k47_28 Iff.rfl rfl rfl (fun h2 => ?_) (fun h2 => ?_)
  · exact q_e k47_83 rfl rfl rfl
  · refine q_ldR_n (pc' := 32) k47_31 rfl rfl (by have := (k2 ht0 (by decide)); omega) ?_
    refine q_getF (r := t0 + 5) (pc' := 35) k47_32 ht0 rfl (kP_f ht0).2.2.2.1 rfl ?_
    refine q_s (pc' := 36) (ls' := [vR t0, vR 116, vI l2]) (st' := [vI l2, vR (t0 + 5)]) (g' := g) k47_35 rfl rfl ?_
    refine q_s (pc' := 37) (ls' := [vR t0, vR 116, vI l2]) (st' := [vR 116, vI l2, vR (t0 + 5)]) (g' := g) k47_36 rfl rfl ?_
    refine q_getM (w := 1) (c := 20) (pc' := 40) rfl k47_37 rfl rfl rfl rfl rfl (fun h3 => ?_)
    refine q_s (pc' := 41) (ls' := [vR t0, vR 116, vI l2]) (st' := [vI l2, vR (g 116 1), vI l2, vR (t0 + 5)]) (g' := g) k47_40 rfl rfl ?_
    refine q_iald (n := aln (SH L) (g 116 1)) (pc' := 42) rfl k47_41 rfl rfl (fun h4 => ?_)
    refine q_iast (n := 6) (pc' := 43) rfl k47_42 (kP_f ht0).2.2.2.2.2.2.2.2.1 (by have := k2 ht0 (by decide); omega) rfl (fun h5 => ?_)
    refine q_ldR_n (pc' := 44) k47_43 rfl rfl (by have := (k2 ht0 (by decide)); omega) ?_
    refine q_getF (r := t0 + 6) (pc' := 47) k47_44 ht0 rfl (kP_f ht0).2.2.2.2.1 rfl ?_
    refine q_s (pc' := 48) (ls' := [vR t0, vR 116, vI l2]) (st' := [vI l2, vR (t0 + 6)]) (g' := up g (t0 + 5) l2 (g (g 116 1) l2)) k47_47 rfl rfl ?_
    refine q_s (pc' := 49) (ls' := [vR t0, vR 116, vI l2]) (st' := [vR 116, vI l2, vR (t0 + 6)]) (g' := up g (t0 + 5) l2 (g (g 116 1) l2)) k47_48 rfl rfl ?_
    refine q_s (pc' := 50) (ls' := [vR t0, vR 116, vI l2]) (st' := [vI l2, vR 116, vI l2, vR (t0 + 6)]) (g' := up g (t0 + 5) l2 (g (g 116 1) l2)) k47_49 rfl rfl ?_
    refine q_callI (ls0 := [vR 116, vI l2]) (rest := [vI l2, vR (t0 + 6)]) (pc' := 53) rfl k47_50 rfl (hy4 rfl rfl rfl rfl) rfl rfl hq_26 rfl (fun q6 => ?_)
    refine q_bast (n := 6) (pc' := 54) rfl k47_53 (kP_f ht0).2.2.2.2.2.2.2.2.2 rfl (fun h7 => ?_)
    refine q_ldR_n (pc' := 55) k47_54 rfl rfl (by have := (k2 ht0 (by decide)); omega) ?_
    refine q_s (pc' := 56) (ls' := [vR t0, vR 116, vI l2]) (st' := [vR t0, vR t0]) (g' := up q6.2 (t0 + 6) l2 q6.1) k47_55 rfl rfl ?_
    refine q_getI (w := 9) (pc' := 59) k47_56 ht0 rfl rfl rfl ?_
    refine q_ldR_n (pc' := 60) k47_59 rfl rfl (by have := (k2 ht0 (by decide)); omega) ?_
    refine q_getF (r := t0 + 6) (pc' := 63) k47_60 ht0 rfl (kP_f ht0).2.2.2.2.1 rfl ?_
    refine q_s (pc' := 64) (ls' := [vR t0, vR 116, vI l2]) (st' := [vI l2, vR (t0 + 6), vI ((up q6.2 (t0 + 6) l2 q6.1) t0 9), vR t0]) (g' := up q6.2 (t0 + 6) l2 q6.1) k47_63 rfl rfl ?_
    refine q_bald (n := 6) (pc' := 65) rfl k47_64 (kP_f ht0).2.2.2.2.2.2.2.2.2 rfl (fun h8 => ?_)
    refine q_if (P := (up q6.2 (t0 + 6) l2 q6.1) (t0 + 6) l2 = 0) (t := 72) (pc' := 68) k47_65 Iff.rfl rfl rfl (fun h9 => ?_) (fun h9 => ?_)
    · refine q_s (pc' := 73) (ls' := [vR t0, vR 116, vI l2]) (st' := [vI 0, vI ((up q6.2 (t0 + 6) l2 q6.1) t0 9), vR t0]) (g' := up q6.2 (t0 + 6) l2 q6.1) k47_72 rfl rfl ?_
      refine q_s (pc' := 74) (ls' := [vR t0, vR 116, vI l2]) (st' := [vI (iw (((up q6.2 (t0 + 6) l2 q6.1) t0 9) + 0)), vR t0]) (g' := up q6.2 (t0 + 6) l2 q6.1) k47_73 rfl rfl ?_
      refine q_putI (w := 9) (pc' := 77) k47_74 ht0 rfl rfl rfl ?_
      refine q_s (pc' := 80) (ls' := [vR t0, vR 116, vI (iw (l2 + 1))]) (st' := []) (g' := up (up q6.2 (t0 + 6) l2 q6.1) t0 9 (iw (((up q6.2 (t0 + 6) l2 q6.1) t0 9) + 0))) k47_77 rfl rfl ?_
      refine q_s (pc' := 23) (ls' := [vR t0, vR 116, vI (iw (l2 + 1))]) (st' := []) (g' := up (up q6.2 (t0 + 6) l2 q6.1) t0 9 (iw (((up q6.2 (t0 + 6) l2 q6.1) t0 9) + 0))) k47_80 rfl rfl ?_
      rfl
    · refine q_s (pc' := 69) (ls' := [vR t0, vR 116, vI l2]) (st' := [vI 1, vI ((up q6.2 (t0 + 6) l2 q6.1) t0 9), vR t0]) (g' := up q6.2 (t0 + 6) l2 q6.1) k47_68 rfl rfl ?_
      refine q_s (pc' := 73) (ls' := [vR t0, vR 116, vI l2]) (st' := [vI 1, vI ((up q6.2 (t0 + 6) l2 q6.1) t0 9), vR t0]) (g' := up q6.2 (t0 + 6) l2 q6.1) k47_69 rfl rfl ?_
      refine q_s (pc' := 74) (ls' := [vR t0, vR 116, vI l2]) (st' := [vI (iw (((up q6.2 (t0 + 6) l2 q6.1) t0 9) + 1)), vR t0]) (g' := up q6.2 (t0 + 6) l2 q6.1) k47_73 rfl rfl ?_
      refine q_putI (w := 9) (pc' := 77) k47_74 ht0 rfl rfl rfl ?_
      refine q_s (pc' := 80) (ls' := [vR t0, vR 116, vI (iw (l2 + 1))]) (st' := []) (g' := up (up q6.2 (t0 + 6) l2 q6.1) t0 9 (iw (((up q6.2 (t0 + 6) l2 q6.1) t0 9) + 1))) k47_77 rfl rfl ?_
      refine q_s (pc' := 23) (ls' := [vR t0, vR 116, vI (iw (l2 + 1))]) (st' := []) (g' := up (up q6.2 (t0 + 6) l2 q6.1) t0 9 (iw (((up q6.2 (t0 + 6) l2 q6.1) t0 9) + 1))) k47_80 rfl rfl ?_
      rfl
set_option maxHeartbeats 4000000 in
theorem jPl_isWanted_eq (L : Nat) (t0 : Int) (a1 : Int) (g : AMem) (ht0 : kin (SH L) t0 = 6) : jPl_isWanted L t0 a1 g = jPl_isWanted_2 L t0 a1 0 g := by
  unfold jPl_isWanted
  refine q_s (pc' := 1) (ls' := [vR t0, vI a1, vU]) (st' := [vI 0]) (g' := g) k48_0 rfl rfl ?_
  refine q_s (pc' := 2) (ls' := [vR t0, vI a1, vI 0]) (st' := []) (g' := g) k48_1 rfl rfl ?_
  rfl
set_option maxHeartbeats 4000000 in
theorem jPl_isWanted_2_eq (L : Nat) (t0 : Int) (l1 : Int) (l2 : Int) (g : AMem) (ht0 : kin (SH L) t0 = 6) : jPl_isWanted_2 L t0 l1 l2 g = if g t0 6 ≤ l2 then (some (0, g)) else (if 0 ≤ l2 ∧ l2 < 6 then (if g (t0 + 6) l2 = 0 then (jPl_isWanted_2 L t0 l1 (iw (l2 + 1)) g) else (if 0 ≤ l2 ∧ l2 < 6 then (if g (t0 + 5) l2 ≠ l1 then (jPl_isWanted_2 L t0 l1 (iw (l2 + 1)) g) else (some (1, g))) else none)) else none) := by
  unfold jPl_isWanted_2
  refine q_s (pc' := 3) (ls' := [vR t0, vI l1, vI l2]) (st' := [vI l2]) (g' := g) k48_2 rfl rfl ?_
  refine q_ldR_n (pc' := 4) k48_3 rfl rfl (by have := (k2 ht0 (by decide)); omega) ?_
  refine q_getI (w := 6) (pc' := 7) k48_4 ht0 rfl rfl rfl ?_
  refine q_ic (P := g t0 6 ≤ l2) (t := 37) (pc' := 10) k48_7 Iff.rfl rfl rfl (fun h1 => ?_) (fun h1 => ?_)
  · refine q_s (pc' := 38) (ls' := [vR t0, vI l1, vI l2]) (st' := [vI 0]) (g' := g) k48_37 rfl rfl ?_
    exact q_e k48_38 rfl rfl rfl
  · refine q_ldR_n (pc' := 11) k48_10 rfl rfl (by have := (k2 ht0 (by decide)); omega) ?_
    refine q_getF (r := t0 + 6) (pc' := 14) k48_11 ht0 rfl (kP_f ht0).2.2.2.2.1 rfl ?_
    refine q_s (pc' := 15) (ls' := [vR t0, vI l1, vI l2]) (st' := [vI l2, vR (t0 + 6)]) (g' := g) k48_14 rfl rfl ?_
    refine q_bald (n := 6) (pc' := 16) rfl k48_15 (kP_f ht0).2.2.2.2.2.2.2.2.2 rfl (fun h2 => ?_)
    refine q_if (P := g (t0 + 6) l2 = 0) (t := 31) (pc' := 19) k48_16 Iff.rfl rfl rfl (fun h3 => ?_) (fun h3 => ?_)
    · refine q_s (pc' := 34) (ls' := [vR t0, vI l1, vI (iw (l2 + 1))]) (st' := []) (g' := g) k48_31 rfl rfl ?_
      refine q_s (pc' := 2) (ls' := [vR t0, vI l1, vI (iw (l2 + 1))]) (st' := []) (g' := g) k48_34 rfl rfl ?_
      rfl
    · refine q_ldR_n (pc' := 20) k48_19 rfl rfl (by have := (k2 ht0 (by decide)); omega) ?_
      refine q_getF (r := t0 + 5) (pc' := 23) k48_20 ht0 rfl (kP_f ht0).2.2.2.1 rfl ?_
      refine q_s (pc' := 24) (ls' := [vR t0, vI l1, vI l2]) (st' := [vI l2, vR (t0 + 5)]) (g' := g) k48_23 rfl rfl ?_
      refine q_iald (n := 6) (pc' := 25) rfl k48_24 (kP_f ht0).2.2.2.2.2.2.2.2.1 rfl (fun h4 => ?_)
      refine q_s (pc' := 26) (ls' := [vR t0, vI l1, vI l2]) (st' := [vI l1, vI (g (t0 + 5) l2)]) (g' := g) k48_25 rfl rfl ?_
      refine q_ic (P := g (t0 + 5) l2 ≠ l1) (t := 31) (pc' := 29) k48_26 Iff.rfl rfl rfl (fun h5 => ?_) (fun h5 => ?_)
      · refine q_s (pc' := 34) (ls' := [vR t0, vI l1, vI (iw (l2 + 1))]) (st' := []) (g' := g) k48_31 rfl rfl ?_
        refine q_s (pc' := 2) (ls' := [vR t0, vI l1, vI (iw (l2 + 1))]) (st' := []) (g' := g) k48_34 rfl rfl ?_
        rfl
      · refine q_s (pc' := 30) (ls' := [vR t0, vI l1, vI l2]) (st' := [vI 1]) (g' := g) k48_29 rfl rfl ?_
        exact q_e k48_30 rfl rfl rfl
set_option maxHeartbeats 4000000 in
theorem jPl_leastOpen_eq (L : Nat) (t0 : Int) (a1 : Int) (g : AMem) (ht0 : kin (SH L) t0 = 6) : jPl_leastOpen L t0 a1 g = jPl_leastOpen_4 L t0 a1 (-1) 0 vU g := by
  unfold jPl_leastOpen
  refine q_s (pc' := 1) (ls' := [vR t0, vI a1, vU, vU, vU]) (st' := [vI (-1)]) (g' := g) k49_0 rfl rfl ?_
  refine q_s (pc' := 2) (ls' := [vR t0, vI a1, vI (-1), vU, vU]) (st' := []) (g' := g) k49_1 rfl rfl ?_
  refine q_s (pc' := 3) (ls' := [vR t0, vI a1, vI (-1), vU, vU]) (st' := [vI 0]) (g' := g) k49_2 rfl rfl ?_
  refine q_s (pc' := 4) (ls' := [vR t0, vI a1, vI (-1), vI 0, vU]) (st' := []) (g' := g) k49_3 rfl rfl ?_
  rfl
set_option maxHeartbeats 4000000 in
theorem jPl_leastOpen_4_eq (L : Nat) (t0 : Int) (l1 : Int) (l2 : Int) (l3 : Int) (w4 : AVal) (g : AMem) (ht0 : kin (SH L) t0 = 6) : jPl_leastOpen_4 L t0 l1 l2 l3 w4 g = if g t0 6 ≤ l3 then (some (l2, g)) else (if 0 ≤ l3 ∧ l3 < 6 then (if g (t0 + 6) l3 = 0 then (jPl_leastOpen_4 L t0 l1 l2 (iw (l3 + 1)) (vI 0) g) else (if l1 = 0 then (if l2 < 0 then (jPl_leastOpen_4 L t0 l1 l3 (iw (l3 + 1)) (vI 1) g) else (if kin (SH L) (g t0 5) = 20 then (if 0 ≤ l3 ∧ l3 < aln (SH L) (g t0 5) then (if kin (SH L) (g t0 5) = 20 then (if 0 ≤ l2 ∧ l2 < aln (SH L) (g t0 5) then (if g (g t0 5) l2 ≤ g (g t0 5) l3 then (jPl_leastOpen_4 L t0 l1 l2 (iw (l3 + 1)) (vI 1) g) else (jPl_leastOpen_4 L t0 l1 l3 (iw (l3 + 1)) (vI 1) g)) else none) else none) else none) else none)) else (if kin (SH L) (g t0 5) = 20 then (if 0 ≤ l3 ∧ l3 < aln (SH L) (g t0 5) then ((jPl_isWanted L t0 (g (g t0 5) l3) g).bind (fun q13 => if q13.1 ≠ 0 then (jPl_leastOpen_4 L t0 l1 l2 (iw (l3 + 1)) (vI 0) q13.2) else (if l2 < 0 then (jPl_leastOpen_4 L t0 l1 l3 (iw (l3 + 1)) (vI 1) q13.2) else (if kin (SH L) (q13.2 t0 5) = 20 then (if 0 ≤ l3 ∧ l3 < aln (SH L) (q13.2 t0 5) then (if kin (SH L) (q13.2 t0 5) = 20 then (if 0 ≤ l2 ∧ l2 < aln (SH L) (q13.2 t0 5) then (if q13.2 (q13.2 t0 5) l2 ≤ q13.2 (q13.2 t0 5) l3 then (jPl_leastOpen_4 L t0 l1 l2 (iw (l3 + 1)) (vI 1) q13.2) else (jPl_leastOpen_4 L t0 l1 l3 (iw (l3 + 1)) (vI 1) q13.2)) else none) else none) else none) else none)))) else none) else none))) else none) := by
  unfold jPl_leastOpen_4
  refine q_s (pc' := 5) (ls' := [vR t0, vI l1, vI l2, vI l3, w4]) (st' := [vI l3]) (g' := g) k49_4 rfl rfl ?_
  refine q_ldR_n (pc' := 6) k49_5 rfl rfl (by have := (k2 ht0 (by decide)); omega) ?_
  refine q_getI (w := 6) (pc' := 9) k49_6 ht0 rfl rfl rfl ?_
  refine q_ic (P := g t0 6 ≤ l3) (t := 77) (pc' := 12) k49_9 Iff.rfl rfl rfl (fun h1 => ?_) (fun h1 => ?_)
  · refine q_s (pc' := 78) (ls' := [vR t0, vI l1, vI l2, vI l3, w4]) (st' := [vI l2]) (g' := g) k49_77 rfl rfl ?_
    exact q_e k49_78 rfl rfl rfl
  · refine q_ldR_n (pc' := 13) k49_12 rfl rfl (by have := (k2 ht0 (by decide)); omega) ?_
    refine q_getF (r := t0 + 6) (pc' := 16) k49_13 ht0 rfl (kP_f ht0).2.2.2.2.1 rfl ?_
    refine q_s (pc' := 17) (ls' := [vR t0, vI l1, vI l2, vI l3, w4]) (st' := [vI l3, vR (t0 + 6)]) (g' := g) k49_16 rfl rfl ?_
    refine q_bald (n := 6) (pc' := 18) rfl k49_17 (kP_f ht0).2.2.2.2.2.2.2.2.2 rfl (fun h2 => ?_)
    refine q_if (P := g (t0 + 6) l3 = 0) (t := 42) (pc' := 21) k49_18 Iff.rfl rfl rfl (fun h3 => ?_) (fun h3 => ?_)
    · refine q_s (pc' := 43) (ls' := [vR t0, vI l1, vI l2, vI l3, w4]) (st' := [vI 0]) (g' := g) k49_42 rfl rfl ?_
      refine q_s (pc' := 45) (ls' := [vR t0, vI l1, vI l2, vI l3, vI 0]) (st' := []) (g' := g) k49_43 rfl rfl ?_
      refine q_s (pc' := 47) (ls' := [vR t0, vI l1, vI l2, vI l3, vI 0]) (st' := [vI 0]) (g' := g) k49_45 rfl rfl ?_
      refine q_s (pc' := 71) (ls' := [vR t0, vI l1, vI l2, vI l3, vI 0]) (st' := []) (g' := g) k49_47 rfl rfl ?_
      refine q_s (pc' := 74) (ls' := [vR t0, vI l1, vI l2, vI (iw (l3 + 1)), vI 0]) (st' := []) (g' := g) k49_71 rfl rfl ?_
      refine q_s (pc' := 4) (ls' := [vR t0, vI l1, vI l2, vI (iw (l3 + 1)), vI 0]) (st' := []) (g' := g) k49_74 rfl rfl ?_
      rfl
    · refine q_s (pc' := 22) (ls' := [vR t0, vI l1, vI l2, vI l3, w4]) (st' := [vI l1]) (g' := g) k49_21 rfl rfl ?_
      refine q_if (P := l1 = 0) (t := 38) (pc' := 25) k49_22 Iff.rfl rfl rfl (fun h4 => ?_) (fun h4 => ?_)
      · refine q_s (pc' := 39) (ls' := [vR t0, vI l1, vI l2, vI l3, w4]) (st' := [vI 1]) (g' := g) k49_38 rfl rfl ?_
        refine q_s (pc' := 43) (ls' := [vR t0, vI l1, vI l2, vI l3, w4]) (st' := [vI 1]) (g' := g) k49_39 rfl rfl ?_
        refine q_s (pc' := 45) (ls' := [vR t0, vI l1, vI l2, vI l3, vI 1]) (st' := []) (g' := g) k49_43 rfl rfl ?_
        refine q_s (pc' := 47) (ls' := [vR t0, vI l1, vI l2, vI l3, vI 1]) (st' := [vI 1]) (g' := g) k49_45 rfl rfl ?_
        refine q_s (pc' := 50) (ls' := [vR t0, vI l1, vI l2, vI l3, vI 1]) (st' := []) (g' := g) k49_47 rfl rfl ?_
        refine q_s (pc' := 51) (ls' := [vR t0, vI l1, vI l2, vI l3, vI 1]) (st' := [vI l2]) (g' := g) k49_50 rfl rfl ?_
        refine q_if (P := l2 < 0) (t := 69) (pc' := 54) k49_51 Iff.rfl rfl rfl (fun h5 => ?_) (fun h5 => ?_)
        · refine q_s (pc' := 70) (ls' := [vR t0, vI l1, vI l2, vI l3, vI 1]) (st' := [vI l3]) (g' := g) k49_69 rfl rfl ?_
          refine q_s (pc' := 71) (ls' := [vR t0, vI l1, vI l3, vI l3, vI 1]) (st' := []) (g' := g) k49_70 rfl rfl ?_
          refine q_s (pc' := 74) (ls' := [vR t0, vI l1, vI l3, vI (iw (l3 + 1)), vI 1]) (st' := []) (g' := g) k49_71 rfl rfl ?_
          refine q_s (pc' := 4) (ls' := [vR t0, vI l1, vI l3, vI (iw (l3 + 1)), vI 1]) (st' := []) (g' := g) k49_74 rfl rfl ?_
          rfl
        · refine q_ldR_n (pc' := 55) k49_54 rfl rfl (by have := (k2 ht0 (by decide)); omega) ?_
          refine q_getM (w := 5) (c := 20) (pc' := 58) rfl k49_55 ht0 rfl rfl rfl rfl (fun h6 => ?_)
          refine q_s (pc' := 59) (ls' := [vR t0, vI l1, vI l2, vI l3, vI 1]) (st' := [vI l3, vR (g t0 5)]) (g' := g) k49_58 rfl rfl ?_
          refine q_iald (n := aln (SH L) (g t0 5)) (pc' := 60) rfl k49_59 rfl rfl (fun h7 => ?_)
          refine q_ldR_n (pc' := 61) k49_60 rfl rfl (by have := (k2 ht0 (by decide)); omega) ?_
          refine q_getM (w := 5) (c := 20) (pc' := 64) rfl k49_61 ht0 rfl rfl rfl rfl (fun h8 => ?_)
          refine q_s (pc' := 65) (ls' := [vR t0, vI l1, vI l2, vI l3, vI 1]) (st' := [vI l2, vR (g t0 5), vI (g (g t0 5) l3)]) (g' := g) k49_64 rfl rfl ?_
          refine q_iald (n := aln (SH L) (g t0 5)) (pc' := 66) rfl k49_65 rfl rfl (fun h9 => ?_)
          refine q_ic (P := g (g t0 5) l2 ≤ g (g t0 5) l3) (t := 71) (pc' := 69) k49_66 Iff.rfl rfl rfl (fun h10 => ?_) (fun h10 => ?_)
          · refine q_s (pc' := 74) (ls' := [vR t0, vI l1, vI l2, vI (iw (l3 + 1)), vI 1]) (st' := []) (g' := g) k49_71 rfl rfl ?_
            refine q_s (pc' := 4) (ls' := [vR t0, vI l1, vI l2, vI (iw (l3 + 1)), vI 1]) (st' := []) (g' := g) k49_74 rfl rfl ?_
            rfl
          · refine q_s (pc' := 70) (ls' := [vR t0, vI l1, vI l2, vI l3, vI 1]) (st' := [vI l3]) (g' := g) k49_69 rfl rfl ?_
            refine q_s (pc' := 71) (ls' := [vR t0, vI l1, vI l3, vI l3, vI 1]) (st' := []) (g' := g) k49_70 rfl rfl ?_
            refine q_s (pc' := 74) (ls' := [vR t0, vI l1, vI l3, vI (iw (l3 + 1)), vI 1]) (st' := []) (g' := g) k49_71 rfl rfl ?_
            refine q_s (pc' := 4) (ls' := [vR t0, vI l1, vI l3, vI (iw (l3 + 1)), vI 1]) (st' := []) (g' := g) k49_74 rfl rfl ?_
            rfl
      · refine q_ldR_n (pc' := 26) k49_25 rfl rfl (by have := (k2 ht0 (by decide)); omega) ?_
        refine q_ldR_n (pc' := 27) k49_26 rfl rfl (by have := (k2 ht0 (by decide)); omega) ?_
        refine q_getM (w := 5) (c := 20) (pc' := 30) rfl k49_27 ht0 rfl rfl rfl rfl (fun h11 => ?_)
        refine q_s (pc' := 31) (ls' := [vR t0, vI l1, vI l2, vI l3, w4]) (st' := [vI l3, vR (g t0 5), vR t0]) (g' := g) k49_30 rfl rfl ?_
        refine q_iald (n := aln (SH L) (g t0 5)) (pc' := 32) rfl k49_31 rfl rfl (fun h12 => ?_)
        refine q_callI (ls0 := [vR t0, vI (g (g t0 5) l3), vU]) (rest := []) (pc' := 35) rfl k49_32 rfl (hy4 rfl rfl (rcv0 rfl ht0) rfl) rfl rfl hq_48 rfl (fun q13 => ?_)
        refine q_if (P := q13.1 ≠ 0) (t := 42) (pc' := 38) k49_35 Iff.rfl rfl rfl (fun h14 => ?_) (fun h14 => ?_)
        · refine q_s (pc' := 43) (ls' := [vR t0, vI l1, vI l2, vI l3, w4]) (st' := [vI 0]) (g' := q13.2) k49_42 rfl rfl ?_
          refine q_s (pc' := 45) (ls' := [vR t0, vI l1, vI l2, vI l3, vI 0]) (st' := []) (g' := q13.2) k49_43 rfl rfl ?_
          refine q_s (pc' := 47) (ls' := [vR t0, vI l1, vI l2, vI l3, vI 0]) (st' := [vI 0]) (g' := q13.2) k49_45 rfl rfl ?_
          refine q_s (pc' := 71) (ls' := [vR t0, vI l1, vI l2, vI l3, vI 0]) (st' := []) (g' := q13.2) k49_47 rfl rfl ?_
          refine q_s (pc' := 74) (ls' := [vR t0, vI l1, vI l2, vI (iw (l3 + 1)), vI 0]) (st' := []) (g' := q13.2) k49_71 rfl rfl ?_
          refine q_s (pc' := 4) (ls' := [vR t0, vI l1, vI l2, vI (iw (l3 + 1)), vI 0]) (st' := []) (g' := q13.2) k49_74 rfl rfl ?_
          rfl
        · refine q_s (pc' := 39) (ls' := [vR t0, vI l1, vI l2, vI l3, w4]) (st' := [vI 1]) (g' := q13.2) k49_38 rfl rfl ?_
          refine q_s (pc' := 43) (ls' := [vR t0, vI l1, vI l2, vI l3, w4]) (st' := [vI 1]) (g' := q13.2) k49_39 rfl rfl ?_
          refine q_s (pc' := 45) (ls' := [vR t0, vI l1, vI l2, vI l3, vI 1]) (st' := []) (g' := q13.2) k49_43 rfl rfl ?_
          refine q_s (pc' := 47) (ls' := [vR t0, vI l1, vI l2, vI l3, vI 1]) (st' := [vI 1]) (g' := q13.2) k49_45 rfl rfl ?_
          refine q_s (pc' := 50) (ls' := [vR t0, vI l1, vI l2, vI l3, vI 1]) (st' := []) (g' := q13.2) k49_47 rfl rfl ?_
          refine q_s (pc' := 51) (ls' := [vR t0, vI l1, vI l2, vI l3, vI 1]) (st' := [vI l2]) (g' := q13.2) k49_50 rfl rfl ?_
          refine q_if (P := l2 < 0) (t := 69) (pc' := 54) k49_51 Iff.rfl rfl rfl (fun h15 => ?_) (fun h15 => ?_)
          · refine q_s (pc' := 70) (ls' := [vR t0, vI l1, vI l2, vI l3, vI 1]) (st' := [vI l3]) (g' := q13.2) k49_69 rfl rfl ?_
            refine q_s (pc' := 71) (ls' := [vR t0, vI l1, vI l3, vI l3, vI 1]) (st' := []) (g' := q13.2) k49_70 rfl rfl ?_
            refine q_s (pc' := 74) (ls' := [vR t0, vI l1, vI l3, vI (iw (l3 + 1)), vI 1]) (st' := []) (g' := q13.2) k49_71 rfl rfl ?_
            refine q_s (pc' := 4) (ls' := [vR t0, vI l1, vI l3, vI (iw (l3 + 1)), vI 1]) (st' := []) (g' := q13.2) k49_74 rfl rfl ?_
            rfl
          · refine q_ldR_n (pc' := 55) k49_54 rfl rfl (by have := (k2 ht0 (by decide)); omega) ?_
            refine q_getM (w := 5) (c := 20) (pc' := 58) rfl k49_55 ht0 rfl rfl rfl rfl (fun h16 => ?_)
            refine q_s (pc' := 59) (ls' := [vR t0, vI l1, vI l2, vI l3, vI 1]) (st' := [vI l3, vR (q13.2 t0 5)]) (g' := q13.2) k49_58 rfl rfl ?_
            refine q_iald (n := aln (SH L) (q13.2 t0 5)) (pc' := 60) rfl k49_59 rfl rfl (fun h17 => ?_)
            refine q_ldR_n (pc' := 61) k49_60 rfl rfl (by have := (k2 ht0 (by decide)); omega) ?_
            refine q_getM (w := 5) (c := 20) (pc' := 64) rfl k49_61 ht0 rfl rfl rfl rfl (fun h18 => ?_)
            refine q_s (pc' := 65) (ls' := [vR t0, vI l1, vI l2, vI l3, vI 1]) (st' := [vI l2, vR (q13.2 t0 5), vI (q13.2 (q13.2 t0 5) l3)]) (g' := q13.2) k49_64 rfl rfl ?_
            refine q_iald (n := aln (SH L) (q13.2 t0 5)) (pc' := 66) rfl k49_65 rfl rfl (fun h19 => ?_)
            refine q_ic (P := q13.2 (q13.2 t0 5) l2 ≤ q13.2 (q13.2 t0 5) l3) (t := 71) (pc' := 69) k49_66 Iff.rfl rfl rfl (fun h20 => ?_) (fun h20 => ?_)
            · refine q_s (pc' := 74) (ls' := [vR t0, vI l1, vI l2, vI (iw (l3 + 1)), vI 1]) (st' := []) (g' := q13.2) k49_71 rfl rfl ?_
              refine q_s (pc' := 4) (ls' := [vR t0, vI l1, vI l2, vI (iw (l3 + 1)), vI 1]) (st' := []) (g' := q13.2) k49_74 rfl rfl ?_
              rfl
            · refine q_s (pc' := 70) (ls' := [vR t0, vI l1, vI l2, vI l3, vI 1]) (st' := [vI l3]) (g' := q13.2) k49_69 rfl rfl ?_
              refine q_s (pc' := 71) (ls' := [vR t0, vI l1, vI l3, vI l3, vI 1]) (st' := []) (g' := q13.2) k49_70 rfl rfl ?_
              refine q_s (pc' := 74) (ls' := [vR t0, vI l1, vI l3, vI (iw (l3 + 1)), vI 1]) (st' := []) (g' := q13.2) k49_71 rfl rfl ?_
              refine q_s (pc' := 4) (ls' := [vR t0, vI l1, vI l3, vI (iw (l3 + 1)), vI 1]) (st' := []) (g' := q13.2) k49_74 rfl rfl ?_
              rfl
set_option maxHeartbeats 4000000 in
theorem jPl_add_eq (L : Nat) (t0 : Int) (a1 : Int) (a2 : Int) (a3 : Int) (g : AMem) (ht0 : kin (SH L) t0 = 6) : jPl_add L t0 a1 a2 a3 g = if 9 ≤ g t0 3 then (some g) else (if 0 ≤ g t0 3 ∧ g t0 3 < 9 then (if 0 ≤ (up g (t0 + 1) (g t0 3) a1) t0 3 ∧ (up g (t0 + 1) (g t0 3) a1) t0 3 < 9 then (if 0 ≤ (up (up g (t0 + 1) (g t0 3) a1) (t0 + 2) ((up g (t0 + 1) (g t0 3) a1) t0 3) a2) t0 3 ∧ (up (up g (t0 + 1) (g t0 3) a1) (t0 + 2) ((up g (t0 + 1) (g t0 3) a1) t0 3) a2) t0 3 < 9 then (some (up (up (up (up g (t0 + 1) (g t0 3) a1) (t0 + 2) ((up g (t0 + 1) (g t0 3) a1) t0 3) a2) (t0 + 3) ((up (up g (t0 + 1) (g t0 3) a1) (t0 + 2) ((up g (t0 + 1) (g t0 3) a1) t0 3) a2) t0 3) a3) t0 3 (iw (((up (up (up g (t0 + 1) (g t0 3) a1) (t0 + 2) ((up g (t0 + 1) (g t0 3) a1) t0 3) a2) (t0 + 3) ((up (up g (t0 + 1) (g t0 3) a1) (t0 + 2) ((up g (t0 + 1) (g t0 3) a1) t0 3) a2) t0 3) a3) t0 3) + 1)))) else none) else none) else none) := by
  unfold jPl_add
  refine q_ldR_n (pc' := 1) k50_0 rfl rfl (by have := (k2 ht0 (by decide)); omega) ?_
  refine q_getI (w := 3) (pc' := 4) k50_1 ht0 rfl rfl rfl ?_
  refine q_s (pc' := 6) (ls' := [vR t0, vI a1, vI a2, vI a3]) (st' := [vI 9, vI (g t0 3)]) (g' := g) k50_4 rfl rfl ?_
  refine q_ic (P := 9 ≤ g t0 3) (t := 49) (pc' := 9) k50_6 Iff.rfl rfl rfl (fun h1 => ?_) (fun h1 => ?_)
  · exact q_e k50_49 rfl rfl rfl
  · refine q_ldR_n (pc' := 10) k50_9 rfl rfl (by have := (k2 ht0 (by decide)); omega) ?_
    refine q_getF (r := t0 + 1) (pc' := 13) k50_10 ht0 rfl (kP_f ht0).1 rfl ?_
    refine q_ldR_n (pc' := 14) k50_13 rfl rfl (by have := (k2 ht0 (by decide)); omega) ?_
    refine q_getI (w := 3) (pc' := 17) k50_14 ht0 rfl rfl rfl ?_
    refine q_s (pc' := 18) (ls' := [vR t0, vI a1, vI a2, vI a3]) (st' := [vI a1, vI (g t0 3), vR (t0 + 1)]) (g' := g) k50_17 rfl rfl ?_
    refine q_iast (n := 9) (pc' := 19) rfl k50_18 (kP_f ht0).2.2.2.2.2.1 (by have := k2 ht0 (by decide); omega) rfl (fun h2 => ?_)
    refine q_ldR_n (pc' := 20) k50_19 rfl rfl (by have := (k2 ht0 (by decide)); omega) ?_
    refine q_getF (r := t0 + 2) (pc' := 23) k50_20 ht0 rfl (kP_f ht0).2.1 rfl ?_
    refine q_ldR_n (pc' := 24) k50_23 rfl rfl (by have := (k2 ht0 (by decide)); omega) ?_
    refine q_getI (w := 3) (pc' := 27) k50_24 ht0 rfl rfl rfl ?_
    refine q_s (pc' := 28) (ls' := [vR t0, vI a1, vI a2, vI a3]) (st' := [vI a2, vI ((up g (t0 + 1) (g t0 3) a1) t0 3), vR (t0 + 2)]) (g' := up g (t0 + 1) (g t0 3) a1) k50_27 rfl rfl ?_
    refine q_iast (n := 9) (pc' := 29) rfl k50_28 (kP_f ht0).2.2.2.2.2.2.1 (by have := k2 ht0 (by decide); omega) rfl (fun h3 => ?_)
    refine q_ldR_n (pc' := 30) k50_29 rfl rfl (by have := (k2 ht0 (by decide)); omega) ?_
    refine q_getF (r := t0 + 3) (pc' := 33) k50_30 ht0 rfl (kP_f ht0).2.2.1 rfl ?_
    refine q_ldR_n (pc' := 34) k50_33 rfl rfl (by have := (k2 ht0 (by decide)); omega) ?_
    refine q_getI (w := 3) (pc' := 37) k50_34 ht0 rfl rfl rfl ?_
    refine q_s (pc' := 38) (ls' := [vR t0, vI a1, vI a2, vI a3]) (st' := [vI a3, vI ((up (up g (t0 + 1) (g t0 3) a1) (t0 + 2) ((up g (t0 + 1) (g t0 3) a1) t0 3) a2) t0 3), vR (t0 + 3)]) (g' := up (up g (t0 + 1) (g t0 3) a1) (t0 + 2) ((up g (t0 + 1) (g t0 3) a1) t0 3) a2) k50_37 rfl rfl ?_
    refine q_iast (n := 9) (pc' := 39) rfl k50_38 (kP_f ht0).2.2.2.2.2.2.2.1 (by have := k2 ht0 (by decide); omega) rfl (fun h4 => ?_)
    refine q_ldR_n (pc' := 40) k50_39 rfl rfl (by have := (k2 ht0 (by decide)); omega) ?_
    refine q_s (pc' := 41) (ls' := [vR t0, vI a1, vI a2, vI a3]) (st' := [vR t0, vR t0]) (g' := up (up (up g (t0 + 1) (g t0 3) a1) (t0 + 2) ((up g (t0 + 1) (g t0 3) a1) t0 3) a2) (t0 + 3) ((up (up g (t0 + 1) (g t0 3) a1) (t0 + 2) ((up g (t0 + 1) (g t0 3) a1) t0 3) a2) t0 3) a3) k50_40 rfl rfl ?_
    refine q_getI (w := 3) (pc' := 44) k50_41 ht0 rfl rfl rfl ?_
    refine q_s (pc' := 45) (ls' := [vR t0, vI a1, vI a2, vI a3]) (st' := [vI 1, vI ((up (up (up g (t0 + 1) (g t0 3) a1) (t0 + 2) ((up g (t0 + 1) (g t0 3) a1) t0 3) a2) (t0 + 3) ((up (up g (t0 + 1) (g t0 3) a1) (t0 + 2) ((up g (t0 + 1) (g t0 3) a1) t0 3) a2) t0 3) a3) t0 3), vR t0]) (g' := up (up (up g (t0 + 1) (g t0 3) a1) (t0 + 2) ((up g (t0 + 1) (g t0 3) a1) t0 3) a2) (t0 + 3) ((up (up g (t0 + 1) (g t0 3) a1) (t0 + 2) ((up g (t0 + 1) (g t0 3) a1) t0 3) a2) t0 3) a3) k50_44 rfl rfl ?_
    refine q_s (pc' := 46) (ls' := [vR t0, vI a1, vI a2, vI a3]) (st' := [vI (iw (((up (up (up g (t0 + 1) (g t0 3) a1) (t0 + 2) ((up g (t0 + 1) (g t0 3) a1) t0 3) a2) (t0 + 3) ((up (up g (t0 + 1) (g t0 3) a1) (t0 + 2) ((up g (t0 + 1) (g t0 3) a1) t0 3) a2) t0 3) a3) t0 3) + 1)), vR t0]) (g' := up (up (up g (t0 + 1) (g t0 3) a1) (t0 + 2) ((up g (t0 + 1) (g t0 3) a1) t0 3) a2) (t0 + 3) ((up (up g (t0 + 1) (g t0 3) a1) (t0 + 2) ((up g (t0 + 1) (g t0 3) a1) t0 3) a2) t0 3) a3) k50_45 rfl rfl ?_
    refine q_putI (w := 3) (pc' := 49) k50_46 ht0 rfl rfl rfl ?_
    exact q_e k50_49 rfl rfl rfl
set_option maxHeartbeats 4000000 in
theorem jPl_close_eq (L : Nat) (t0 : Int) (a1 : Int) (g : AMem) (ht0 : kin (SH L) t0 = 6) : jPl_close L t0 a1 g = if (0 ≤ a1 ∧ a1 < 6) ∧ ((0 : Int) = 0 ∨ (0 : Int) = 1) then (some (up (up g (t0 + 6) a1 0) t0 9 (iw (((up g (t0 + 6) a1 0) t0 9) - 1)))) else none := by
  unfold jPl_close
  refine q_ldR_n (pc' := 1) k51_0 rfl rfl (by have := (k2 ht0 (by decide)); omega) ?_
  refine q_getF (r := t0 + 6) (pc' := 4) k51_1 ht0 rfl (kP_f ht0).2.2.2.2.1 rfl ?_
  refine q_s (pc' := 5) (ls' := [vR t0, vI a1]) (st' := [vI a1, vR (t0 + 6)]) (g' := g) k51_4 rfl rfl ?_
  refine q_s (pc' := 6) (ls' := [vR t0, vI a1]) (st' := [vI 0, vI a1, vR (t0 + 6)]) (g' := g) k51_5 rfl rfl ?_
  refine q_bast (n := 6) (pc' := 7) rfl k51_6 (kP_f ht0).2.2.2.2.2.2.2.2.2 rfl (fun h1 => ?_)
  refine q_ldR_n (pc' := 8) k51_7 rfl rfl (by have := (k2 ht0 (by decide)); omega) ?_
  refine q_s (pc' := 9) (ls' := [vR t0, vI a1]) (st' := [vR t0, vR t0]) (g' := up g (t0 + 6) a1 0) k51_8 rfl rfl ?_
  refine q_getI (w := 9) (pc' := 12) k51_9 ht0 rfl rfl rfl ?_
  refine q_s (pc' := 13) (ls' := [vR t0, vI a1]) (st' := [vI 1, vI ((up g (t0 + 6) a1 0) t0 9), vR t0]) (g' := up g (t0 + 6) a1 0) k51_12 rfl rfl ?_
  refine q_s (pc' := 14) (ls' := [vR t0, vI a1]) (st' := [vI (iw (((up g (t0 + 6) a1 0) t0 9) - 1)), vR t0]) (g' := up g (t0 + 6) a1 0) k51_13 rfl rfl ?_
  refine q_putI (w := 9) (pc' := 17) k51_14 ht0 rfl rfl rfl ?_
  exact q_e k51_17 rfl rfl rfl
set_option maxHeartbeats 4000000 in
theorem jPl_moveWhatLies_eq (L : Nat) (t0 : Int) (a1 : Int) (a2 : Int) (g : AMem) (ht0 : kin (SH L) t0 = 6) : jPl_moveWhatLies L t0 a1 a2 g = jPl_moveWhatLies_2 L t0 a1 a2 0 g := by
  unfold jPl_moveWhatLies
  refine q_s (pc' := 1) (ls' := [vR t0, vI a1, vI a2, vU]) (st' := [vI 0]) (g' := g) k52_0 rfl rfl ?_
  refine q_s (pc' := 2) (ls' := [vR t0, vI a1, vI a2, vI 0]) (st' := []) (g' := g) k52_1 rfl rfl ?_
  rfl
set_option maxHeartbeats 4000000 in
theorem jPl_moveWhatLies_2_eq (L : Nat) (t0 : Int) (l1 : Int) (l2 : Int) (l3 : Int) (g : AMem) (ht0 : kin (SH L) t0 = 6) : jPl_moveWhatLies_2 L t0 l1 l2 l3 g = if g t0 6 ≤ l3 then (some g) else (if 0 ≤ l3 ∧ l3 < 6 then (if g (t0 + 5) l3 ≠ l1 then (if 0 ≤ l3 ∧ l3 < 6 then (if 0 ≤ l3 ∧ l3 < 6 then (jPl_moveWhatLies_2 L t0 l1 l2 (iw (l3 + 1)) (up g (t0 + 5) l3 (g (t0 + 5) l3))) else none) else none) else (if 0 ≤ l3 ∧ l3 < 6 then (jPl_moveWhatLies_2 L t0 l1 l2 (iw (l3 + 1)) (up g (t0 + 5) l3 l2)) else none)) else none) := by
  unfold jPl_moveWhatLies_2
  refine q_s (pc' := 3) (ls' := [vR t0, vI l1, vI l2, vI l3]) (st' := [vI l3]) (g' := g) k52_2 rfl rfl ?_
  refine q_ldR_n (pc' := 4) k52_3 rfl rfl (by have := (k2 ht0 (by decide)); omega) ?_
  refine q_getI (w := 6) (pc' := 7) k52_4 ht0 rfl rfl rfl ?_
  refine q_ic (P := g t0 6 ≤ l3) (t := 42) (pc' := 10) k52_7 Iff.rfl rfl rfl (fun h1 => ?_) (fun h1 => ?_)
  · exact q_e k52_42 rfl rfl rfl
  · refine q_ldR_n (pc' := 11) k52_10 rfl rfl (by have := (k2 ht0 (by decide)); omega) ?_
    refine q_getF (r := t0 + 5) (pc' := 14) k52_11 ht0 rfl (kP_f ht0).2.2.2.1 rfl ?_
    refine q_s (pc' := 15) (ls' := [vR t0, vI l1, vI l2, vI l3]) (st' := [vI l3, vR (t0 + 5)]) (g' := g) k52_14 rfl rfl ?_
    refine q_ldR_n (pc' := 16) k52_15 rfl rfl (by have := (k2 ht0 (by decide)); omega) ?_
    refine q_getF (r := t0 + 5) (pc' := 19) k52_16 ht0 rfl (kP_f ht0).2.2.2.1 rfl ?_
    refine q_s (pc' := 20) (ls' := [vR t0, vI l1, vI l2, vI l3]) (st' := [vI l3, vR (t0 + 5), vI l3, vR (t0 + 5)]) (g' := g) k52_19 rfl rfl ?_
    refine q_iald (n := 6) (pc' := 21) rfl k52_20 (kP_f ht0).2.2.2.2.2.2.2.2.1 rfl (fun h2 => ?_)
    refine q_s (pc' := 22) (ls' := [vR t0, vI l1, vI l2, vI l3]) (st' := [vI l1, vI (g (t0 + 5) l3), vI l3, vR (t0 + 5)]) (g' := g) k52_21 rfl rfl ?_
    refine q_ic (P := g (t0 + 5) l3 ≠ l1) (t := 29) (pc' := 25) k52_22 Iff.rfl rfl rfl (fun h3 => ?_) (fun h3 => ?_)
    · refine q_ldR_n (pc' := 30) k52_29 rfl rfl (by have := (k2 ht0 (by decide)); omega) ?_
      refine q_getF (r := t0 + 5) (pc' := 33) k52_30 ht0 rfl (kP_f ht0).2.2.2.1 rfl ?_
      refine q_s (pc' := 34) (ls' := [vR t0, vI l1, vI l2, vI l3]) (st' := [vI l3, vR (t0 + 5), vI l3, vR (t0 + 5)]) (g' := g) k52_33 rfl rfl ?_
      refine q_iald (n := 6) (pc' := 35) rfl k52_34 (kP_f ht0).2.2.2.2.2.2.2.2.1 rfl (fun h4 => ?_)
      refine q_iast (n := 6) (pc' := 36) rfl k52_35 (kP_f ht0).2.2.2.2.2.2.2.2.1 (by have := k2 ht0 (by decide); omega) rfl (fun h5 => ?_)
      refine q_s (pc' := 39) (ls' := [vR t0, vI l1, vI l2, vI (iw (l3 + 1))]) (st' := []) (g' := up g (t0 + 5) l3 (g (t0 + 5) l3)) k52_36 rfl rfl ?_
      refine q_s (pc' := 2) (ls' := [vR t0, vI l1, vI l2, vI (iw (l3 + 1))]) (st' := []) (g' := up g (t0 + 5) l3 (g (t0 + 5) l3)) k52_39 rfl rfl ?_
      rfl
    · refine q_s (pc' := 26) (ls' := [vR t0, vI l1, vI l2, vI l3]) (st' := [vI l2, vI l3, vR (t0 + 5)]) (g' := g) k52_25 rfl rfl ?_
      refine q_s (pc' := 35) (ls' := [vR t0, vI l1, vI l2, vI l3]) (st' := [vI l2, vI l3, vR (t0 + 5)]) (g' := g) k52_26 rfl rfl ?_
      refine q_iast (n := 6) (pc' := 36) rfl k52_35 (kP_f ht0).2.2.2.2.2.2.2.2.1 (by have := k2 ht0 (by decide); omega) rfl (fun h6 => ?_)
      refine q_s (pc' := 39) (ls' := [vR t0, vI l1, vI l2, vI (iw (l3 + 1))]) (st' := []) (g' := up g (t0 + 5) l3 l2) k52_36 rfl rfl ?_
      refine q_s (pc' := 2) (ls' := [vR t0, vI l1, vI l2, vI (iw (l3 + 1))]) (st' := []) (g' := up g (t0 + 5) l3 l2) k52_39 rfl rfl ?_
      rfl
set_option maxHeartbeats 4000000 in
theorem jPl_moveTo_eq (L : Nat) (t0 : Int) (a1 : Int) (g : AMem) (ht0 : kin (SH L) t0 = 6) : jPl_moveTo L t0 a1 g = if 0 ≤ a1 ∧ a1 < 6 then (if kin (SH L) (g t0 5) = 20 then (if 0 ≤ a1 ∧ a1 < aln (SH L) (g t0 5) then ((jPl_add L t0 0 (g (g t0 5) a1) (g (t0 + 5) a1) g).bind (fun q4 => (jPl_close L t0 a1 q4).bind (fun q5 => if kin (SH L) (q5 t0 5) = 20 then (if 0 ≤ a1 ∧ a1 < aln (SH L) (q5 t0 5) then ((jPl_moveWhatLies L t0 (g (t0 + 5) a1) (q5 (q5 t0 5) a1) q5).bind (fun q8 => some q8)) else none) else none))) else none) else none) else none := by
  unfold jPl_moveTo
  refine q_ldR_n (pc' := 1) k53_0 rfl rfl (by have := (k2 ht0 (by decide)); omega) ?_
  refine q_getF (r := t0 + 5) (pc' := 4) k53_1 ht0 rfl (kP_f ht0).2.2.2.1 rfl ?_
  refine q_s (pc' := 5) (ls' := [vR t0, vI a1, vU]) (st' := [vI a1, vR (t0 + 5)]) (g' := g) k53_4 rfl rfl ?_
  refine q_iald (n := 6) (pc' := 6) rfl k53_5 (kP_f ht0).2.2.2.2.2.2.2.2.1 rfl (fun h1 => ?_)
  refine q_s (pc' := 7) (ls' := [vR t0, vI a1, vI (g (t0 + 5) a1)]) (st' := []) (g' := g) k53_6 rfl rfl ?_
  refine q_ldR_n (pc' := 8) k53_7 rfl rfl (by have := (k2 ht0 (by decide)); omega) ?_
  refine q_s (pc' := 9) (ls' := [vR t0, vI a1, vI (g (t0 + 5) a1)]) (st' := [vI 0, vR t0]) (g' := g) k53_8 rfl rfl ?_
  refine q_ldR_n (pc' := 10) k53_9 rfl rfl (by have := (k2 ht0 (by decide)); omega) ?_
  refine q_getM (w := 5) (c := 20) (pc' := 13) rfl k53_10 ht0 rfl rfl rfl rfl (fun h2 => ?_)
  refine q_s (pc' := 14) (ls' := [vR t0, vI a1, vI (g (t0 + 5) a1)]) (st' := [vI a1, vR (g t0 5), vI 0, vR t0]) (g' := g) k53_13 rfl rfl ?_
  refine q_iald (n := aln (SH L) (g t0 5)) (pc' := 15) rfl k53_14 rfl rfl (fun h3 => ?_)
  refine q_s (pc' := 16) (ls' := [vR t0, vI a1, vI (g (t0 + 5) a1)]) (st' := [vI (g (t0 + 5) a1), vI (g (g t0 5) a1), vI 0, vR t0]) (g' := g) k53_15 rfl rfl ?_
  refine q_callV (ls0 := [vR t0, vI 0, vI (g (g t0 5) a1), vI (g (t0 + 5) a1)]) (rest := []) (pc' := 19) rfl k53_16 rfl (hy4 rfl rfl (rcv0 rfl ht0) rfl) rfl rfl hq_50 rfl (fun q4 => ?_)
  refine q_ldR_n (pc' := 20) k53_19 rfl rfl (by have := (k2 ht0 (by decide)); omega) ?_
  refine q_s (pc' := 21) (ls' := [vR t0, vI a1, vI (g (t0 + 5) a1)]) (st' := [vI a1, vR t0]) (g' := q4) k53_20 rfl rfl ?_
  refine q_callV (ls0 := [vR t0, vI a1]) (rest := []) (pc' := 24) rfl k53_21 rfl (hy4 rfl rfl (rcv0 rfl ht0) rfl) rfl rfl hq_51 rfl (fun q5 => ?_)
  refine q_ldR_n (pc' := 25) k53_24 rfl rfl (by have := (k2 ht0 (by decide)); omega) ?_
  refine q_s (pc' := 26) (ls' := [vR t0, vI a1, vI (g (t0 + 5) a1)]) (st' := [vI (g (t0 + 5) a1), vR t0]) (g' := q5) k53_25 rfl rfl ?_
  refine q_ldR_n (pc' := 27) k53_26 rfl rfl (by have := (k2 ht0 (by decide)); omega) ?_
  refine q_getM (w := 5) (c := 20) (pc' := 30) rfl k53_27 ht0 rfl rfl rfl rfl (fun h6 => ?_)
  refine q_s (pc' := 31) (ls' := [vR t0, vI a1, vI (g (t0 + 5) a1)]) (st' := [vI a1, vR (q5 t0 5), vI (g (t0 + 5) a1), vR t0]) (g' := q5) k53_30 rfl rfl ?_
  refine q_iald (n := aln (SH L) (q5 t0 5)) (pc' := 32) rfl k53_31 rfl rfl (fun h7 => ?_)
  refine q_callV (ls0 := [vR t0, vI (g (t0 + 5) a1), vI (q5 (q5 t0 5) a1), vU]) (rest := []) (pc' := 35) rfl k53_32 rfl (hy4 rfl rfl (rcv0 rfl ht0) rfl) rfl rfl hq_52 rfl (fun q8 => ?_)
  exact q_e k53_35 rfl rfl rfl
set_option maxHeartbeats 4000000 in
theorem jPl_openAt_eq (L : Nat) (t0 : Int) (a1 : Int) (g : AMem) (ht0 : kin (SH L) t0 = 6) : jPl_openAt L t0 a1 g = jPl_openAt_2 L t0 a1 0 g := by
  unfold jPl_openAt
  refine q_s (pc' := 1) (ls' := [vR t0, vI a1, vU]) (st' := [vI 0]) (g' := g) k54_0 rfl rfl ?_
  refine q_s (pc' := 2) (ls' := [vR t0, vI a1, vI 0]) (st' := []) (g' := g) k54_1 rfl rfl ?_
  rfl
set_option maxHeartbeats 4000000 in
theorem jPl_openAt_2_eq (L : Nat) (t0 : Int) (l1 : Int) (l2 : Int) (g : AMem) (ht0 : kin (SH L) t0 = 6) : jPl_openAt_2 L t0 l1 l2 g = if g t0 6 ≤ l2 then (some ((-1), g)) else (if 0 ≤ l2 ∧ l2 < 6 then (if g (t0 + 6) l2 = 0 then (jPl_openAt_2 L t0 l1 (iw (l2 + 1)) g) else (if kin (SH L) (g t0 5) = 20 then (if 0 ≤ l2 ∧ l2 < aln (SH L) (g t0 5) then (if g (g t0 5) l2 ≠ l1 then (jPl_openAt_2 L t0 l1 (iw (l2 + 1)) g) else (some (l2, g))) else none) else none)) else none) := by
  unfold jPl_openAt_2
  refine q_s (pc' := 3) (ls' := [vR t0, vI l1, vI l2]) (st' := [vI l2]) (g' := g) k54_2 rfl rfl ?_
  refine q_ldR_n (pc' := 4) k54_3 rfl rfl (by have := (k2 ht0 (by decide)); omega) ?_
  refine q_getI (w := 6) (pc' := 7) k54_4 ht0 rfl rfl rfl ?_
  refine q_ic (P := g t0 6 ≤ l2) (t := 37) (pc' := 10) k54_7 Iff.rfl rfl rfl (fun h1 => ?_) (fun h1 => ?_)
  · refine q_s (pc' := 38) (ls' := [vR t0, vI l1, vI l2]) (st' := [vI (-1)]) (g' := g) k54_37 rfl rfl ?_
    exact q_e k54_38 rfl rfl rfl
  · refine q_ldR_n (pc' := 11) k54_10 rfl rfl (by have := (k2 ht0 (by decide)); omega) ?_
    refine q_getF (r := t0 + 6) (pc' := 14) k54_11 ht0 rfl (kP_f ht0).2.2.2.2.1 rfl ?_
    refine q_s (pc' := 15) (ls' := [vR t0, vI l1, vI l2]) (st' := [vI l2, vR (t0 + 6)]) (g' := g) k54_14 rfl rfl ?_
    refine q_bald (n := 6) (pc' := 16) rfl k54_15 (kP_f ht0).2.2.2.2.2.2.2.2.2 rfl (fun h2 => ?_)
    refine q_if (P := g (t0 + 6) l2 = 0) (t := 31) (pc' := 19) k54_16 Iff.rfl rfl rfl (fun h3 => ?_) (fun h3 => ?_)
    · refine q_s (pc' := 34) (ls' := [vR t0, vI l1, vI (iw (l2 + 1))]) (st' := []) (g' := g) k54_31 rfl rfl ?_
      refine q_s (pc' := 2) (ls' := [vR t0, vI l1, vI (iw (l2 + 1))]) (st' := []) (g' := g) k54_34 rfl rfl ?_
      rfl
    · refine q_ldR_n (pc' := 20) k54_19 rfl rfl (by have := (k2 ht0 (by decide)); omega) ?_
      refine q_getM (w := 5) (c := 20) (pc' := 23) rfl k54_20 ht0 rfl rfl rfl rfl (fun h4 => ?_)
      refine q_s (pc' := 24) (ls' := [vR t0, vI l1, vI l2]) (st' := [vI l2, vR (g t0 5)]) (g' := g) k54_23 rfl rfl ?_
      refine q_iald (n := aln (SH L) (g t0 5)) (pc' := 25) rfl k54_24 rfl rfl (fun h5 => ?_)
      refine q_s (pc' := 26) (ls' := [vR t0, vI l1, vI l2]) (st' := [vI l1, vI (g (g t0 5) l2)]) (g' := g) k54_25 rfl rfl ?_
      refine q_ic (P := g (g t0 5) l2 ≠ l1) (t := 31) (pc' := 29) k54_26 Iff.rfl rfl rfl (fun h6 => ?_) (fun h6 => ?_)
      · refine q_s (pc' := 34) (ls' := [vR t0, vI l1, vI (iw (l2 + 1))]) (st' := []) (g' := g) k54_31 rfl rfl ?_
        refine q_s (pc' := 2) (ls' := [vR t0, vI l1, vI (iw (l2 + 1))]) (st' := []) (g' := g) k54_34 rfl rfl ?_
        rfl
      · refine q_s (pc' := 30) (ls' := [vR t0, vI l1, vI l2]) (st' := [vI l2]) (g' := g) k54_29 rfl rfl ?_
        exact q_e k54_30 rfl rfl rfl
set_option maxHeartbeats 4000000 in
theorem jPl_ringSize_eq (L : Nat) (t0 : Int) (a1 : Int) (g : AMem) (ht0 : kin (SH L) t0 = 6) : jPl_ringSize L t0 a1 g = if 0 ≤ a1 ∧ a1 < 6 then ((jPl_openAt L t0 (g (t0 + 5) a1) g).bind (fun q2 => jPl_ringSize_13 L t0 a1 q2.1 1 q2.2)) else none := by
  unfold jPl_ringSize
  refine q_ldR_n (pc' := 1) k55_0 rfl rfl (by have := (k2 ht0 (by decide)); omega) ?_
  refine q_ldR_n (pc' := 2) k55_1 rfl rfl (by have := (k2 ht0 (by decide)); omega) ?_
  refine q_getF (r := t0 + 5) (pc' := 5) k55_2 ht0 rfl (kP_f ht0).2.2.2.1 rfl ?_
  refine q_s (pc' := 6) (ls' := [vR t0, vI a1, vU, vU]) (st' := [vI a1, vR (t0 + 5), vR t0]) (g' := g) k55_5 rfl rfl ?_
  refine q_iald (n := 6) (pc' := 7) rfl k55_6 (kP_f ht0).2.2.2.2.2.2.2.2.1 rfl (fun h1 => ?_)
  refine q_callI (ls0 := [vR t0, vI (g (t0 + 5) a1), vU]) (rest := []) (pc' := 10) rfl k55_7 rfl (hy4 rfl rfl (rcv0 rfl ht0) rfl) rfl rfl hq_54 rfl (fun q2 => ?_)
  refine q_s (pc' := 11) (ls' := [vR t0, vI a1, vI q2.1, vU]) (st' := []) (g' := q2.2) k55_10 rfl rfl ?_
  refine q_s (pc' := 12) (ls' := [vR t0, vI a1, vI q2.1, vU]) (st' := [vI 1]) (g' := q2.2) k55_11 rfl rfl ?_
  refine q_s (pc' := 13) (ls' := [vR t0, vI a1, vI q2.1, vI 1]) (st' := []) (g' := q2.2) k55_12 rfl rfl ?_
  rfl
set_option maxHeartbeats 4000000 in
theorem jPl_ringSize_13_eq (L : Nat) (t0 : Int) (l1 : Int) (l2 : Int) (l3 : Int) (g : AMem) (ht0 : kin (SH L) t0 = 6) : jPl_ringSize_13 L t0 l1 l2 l3 g = if 6 ≤ l3 then (some (l3, g)) else (if l2 < 0 then (some (l3, g)) else (if l2 = l1 then (some (l3, g)) else (if 0 ≤ l2 ∧ l2 < 6 then ((jPl_openAt L t0 (g (t0 + 5) l2) g).bind (fun q7 => jPl_ringSize_13 L t0 l1 q7.1 (iw (l3 + 1)) q7.2)) else none))) := by
  unfold jPl_ringSize_13
  refine q_s (pc' := 14) (ls' := [vR t0, vI l1, vI l2, vI l3]) (st' := [vI l3]) (g' := g) k55_13 rfl rfl ?_
  refine q_s (pc' := 16) (ls' := [vR t0, vI l1, vI l2, vI l3]) (st' := [vI 6, vI l3]) (g' := g) k55_14 rfl rfl ?_
  refine q_ic (P := 6 ≤ l3) (t := 45) (pc' := 19) k55_16 Iff.rfl rfl rfl (fun h3 => ?_) (fun h3 => ?_)
  · refine q_s (pc' := 46) (ls' := [vR t0, vI l1, vI l2, vI l3]) (st' := [vI l3]) (g' := g) k55_45 rfl rfl ?_
    exact q_e k55_46 rfl rfl rfl
  · refine q_s (pc' := 20) (ls' := [vR t0, vI l1, vI l2, vI l3]) (st' := [vI l2]) (g' := g) k55_19 rfl rfl ?_
    refine q_if (P := l2 < 0) (t := 45) (pc' := 23) k55_20 Iff.rfl rfl rfl (fun h4 => ?_) (fun h4 => ?_)
    · refine q_s (pc' := 46) (ls' := [vR t0, vI l1, vI l2, vI l3]) (st' := [vI l3]) (g' := g) k55_45 rfl rfl ?_
      exact q_e k55_46 rfl rfl rfl
    · refine q_s (pc' := 24) (ls' := [vR t0, vI l1, vI l2, vI l3]) (st' := [vI l2]) (g' := g) k55_23 rfl rfl ?_
      refine q_s (pc' := 25) (ls' := [vR t0, vI l1, vI l2, vI l3]) (st' := [vI l1, vI l2]) (g' := g) k55_24 rfl rfl ?_
      refine q_ic (P := l2 = l1) (t := 45) (pc' := 28) k55_25 Iff.rfl rfl rfl (fun h5 => ?_) (fun h5 => ?_)
      · refine q_s (pc' := 46) (ls' := [vR t0, vI l1, vI l2, vI l3]) (st' := [vI l3]) (g' := g) k55_45 rfl rfl ?_
        exact q_e k55_46 rfl rfl rfl
      · refine q_ldR_n (pc' := 29) k55_28 rfl rfl (by have := (k2 ht0 (by decide)); omega) ?_
        refine q_ldR_n (pc' := 30) k55_29 rfl rfl (by have := (k2 ht0 (by decide)); omega) ?_
        refine q_getF (r := t0 + 5) (pc' := 33) k55_30 ht0 rfl (kP_f ht0).2.2.2.1 rfl ?_
        refine q_s (pc' := 34) (ls' := [vR t0, vI l1, vI l2, vI l3]) (st' := [vI l2, vR (t0 + 5), vR t0]) (g' := g) k55_33 rfl rfl ?_
        refine q_iald (n := 6) (pc' := 35) rfl k55_34 (kP_f ht0).2.2.2.2.2.2.2.2.1 rfl (fun h6 => ?_)
        refine q_callI (ls0 := [vR t0, vI (g (t0 + 5) l2), vU]) (rest := []) (pc' := 38) rfl k55_35 rfl (hy4 rfl rfl (rcv0 rfl ht0) rfl) rfl rfl hq_54 rfl (fun q7 => ?_)
        refine q_s (pc' := 39) (ls' := [vR t0, vI l1, vI q7.1, vI l3]) (st' := []) (g' := q7.2) k55_38 rfl rfl ?_
        refine q_s (pc' := 42) (ls' := [vR t0, vI l1, vI q7.1, vI (iw (l3 + 1))]) (st' := []) (g' := q7.2) k55_39 rfl rfl ?_
        refine q_s (pc' := 13) (ls' := [vR t0, vI l1, vI q7.1, vI (iw (l3 + 1))]) (st' := []) (g' := q7.2) k55_42 rfl rfl ?_
        rfl
set_option maxHeartbeats 4000000 in
theorem jPr_change_eq (L : Nat) (a0 : Int) (a1 : Int) (g : AMem) : jPr_change L a0 a1 g = if a0 = 1 then (some (1, g)) else (if a0 = 2 then (some (3, g)) else (if a0 = 3 then (some (0, g)) else (if a0 = 4 then (some (iw ((iw ((iw (a1 + 1)).tdiv 2)) + 1), g)) else (some (0, g))))) := by
  unfold jPr_change
  refine q_s (pc' := 1) (ls' := [vI a0, vI a1]) (st' := [vI a0]) (g' := g) k56_0 rfl rfl ?_
  refine q_by (P := a0 = 1) (fun h1 => ?_) (fun h1 => ?_)
  · refine q_s (pc' := 32) (ls' := [vI a0, vI a1]) (st' := []) (g' := g) k56_1 rfl (e_top h1 rfl) ?_
    refine q_s (pc' := 33) (ls' := [vI a0, vI a1]) (st' := [vI 1]) (g' := g) k56_32 rfl rfl ?_
    exact q_e k56_33 rfl rfl rfl
  · skip
    refine q_by (P := a0 = 2) (fun h2 => ?_) (fun h2 => ?_)
    · refine q_s (pc' := 34) (ls' := [vI a0, vI a1]) (st' := []) (g' := g) k56_1 rfl (e_top h2 rfl) ?_
      refine q_s (pc' := 35) (ls' := [vI a0, vI a1]) (st' := [vI 3]) (g' := g) k56_34 rfl rfl ?_
      exact q_e k56_35 rfl rfl rfl
    · skip
      refine q_by (P := a0 = 3) (fun h3 => ?_) (fun h3 => ?_)
      · refine q_s (pc' := 44) (ls' := [vI a0, vI a1]) (st' := []) (g' := g) k56_1 rfl (e_top h3 rfl) ?_
        refine q_s (pc' := 45) (ls' := [vI a0, vI a1]) (st' := [vI 0]) (g' := g) k56_44 rfl rfl ?_
        exact q_e k56_45 rfl rfl rfl
      · skip
        refine q_by (P := a0 = 4) (fun h4 => ?_) (fun h4 => ?_)
        · refine q_s (pc' := 36) (ls' := [vI a0, vI a1]) (st' := []) (g' := g) k56_1 rfl (e_top h4 rfl) ?_
          refine q_s (pc' := 37) (ls' := [vI a0, vI a1]) (st' := [vI a1]) (g' := g) k56_36 rfl rfl ?_
          refine q_s (pc' := 38) (ls' := [vI a0, vI a1]) (st' := [vI 1, vI a1]) (g' := g) k56_37 rfl rfl ?_
          refine q_s (pc' := 39) (ls' := [vI a0, vI a1]) (st' := [vI (iw (a1 + 1))]) (g' := g) k56_38 rfl rfl ?_
          refine q_s (pc' := 40) (ls' := [vI a0, vI a1]) (st' := [vI 2, vI (iw (a1 + 1))]) (g' := g) k56_39 rfl rfl ?_
          refine q_s (pc' := 41) (ls' := [vI a0, vI a1]) (st' := [vI (iw ((iw (a1 + 1)).tdiv 2))]) (g' := g) k56_40 rfl rfl ?_
          refine q_s (pc' := 42) (ls' := [vI a0, vI a1]) (st' := [vI 1, vI (iw ((iw (a1 + 1)).tdiv 2))]) (g' := g) k56_41 rfl rfl ?_
          refine q_s (pc' := 43) (ls' := [vI a0, vI a1]) (st' := [vI (iw ((iw ((iw (a1 + 1)).tdiv 2)) + 1))]) (g' := g) k56_42 rfl rfl ?_
          exact q_e k56_43 rfl rfl rfl
        · skip
          refine q_s (pc' := 44) (ls' := [vI a0, vI a1]) (st' := []) (g' := g) k56_1 rfl (e_tsw (by omega) (by decide)) ?_
          refine q_s (pc' := 45) (ls' := [vI a0, vI a1]) (st' := [vI 0]) (g' := g) k56_44 rfl rfl ?_
          exact q_e k56_45 rfl rfl rfl
set_option maxHeartbeats 4000000 in
theorem jPr_move_eq (L : Nat) (a0 : Int) (a1 : Int) (g : AMem) : jPr_move L a0 a1 g = if a0 = 3 then (some (a1, g)) else (if a0 = 4 then (some (iw ((iw (a1 + 1)).tdiv 2), g)) else (some (1, g))) := by
  unfold jPr_move
  refine q_s (pc' := 1) (ls' := [vI a0, vI a1]) (st' := [vI a0]) (g' := g) k57_0 rfl rfl ?_
  refine q_by (P := a0 = 3) (fun h1 => ?_) (fun h1 => ?_)
  · refine q_s (pc' := 28) (ls' := [vI a0, vI a1]) (st' := []) (g' := g) k57_1 rfl (e_top h1 rfl) ?_
    refine q_s (pc' := 29) (ls' := [vI a0, vI a1]) (st' := [vI a1]) (g' := g) k57_28 rfl rfl ?_
    exact q_e k57_29 rfl rfl rfl
  · skip
    refine q_by (P := a0 = 4) (fun h2 => ?_) (fun h2 => ?_)
    · refine q_s (pc' := 30) (ls' := [vI a0, vI a1]) (st' := []) (g' := g) k57_1 rfl (e_top h2 rfl) ?_
      refine q_s (pc' := 31) (ls' := [vI a0, vI a1]) (st' := [vI a1]) (g' := g) k57_30 rfl rfl ?_
      refine q_s (pc' := 32) (ls' := [vI a0, vI a1]) (st' := [vI 1, vI a1]) (g' := g) k57_31 rfl rfl ?_
      refine q_s (pc' := 33) (ls' := [vI a0, vI a1]) (st' := [vI (iw (a1 + 1))]) (g' := g) k57_32 rfl rfl ?_
      refine q_s (pc' := 34) (ls' := [vI a0, vI a1]) (st' := [vI 2, vI (iw (a1 + 1))]) (g' := g) k57_33 rfl rfl ?_
      refine q_s (pc' := 35) (ls' := [vI a0, vI a1]) (st' := [vI (iw ((iw (a1 + 1)).tdiv 2))]) (g' := g) k57_34 rfl rfl ?_
      exact q_e k57_35 rfl rfl rfl
    · skip
      refine q_s (pc' := 36) (ls' := [vI a0, vI a1]) (st' := []) (g' := g) k57_1 rfl (e_lsw2 h1 h2) ?_
      refine q_s (pc' := 37) (ls' := [vI a0, vI a1]) (st' := [vI 1]) (g' := g) k57_36 rfl rfl ?_
      exact q_e k57_37 rfl rfl rfl
set_option maxHeartbeats 4000000 in
theorem jPr_isRingChanged_eq (L : Nat) (a0 : Int) (a1 : Int) (a2 : Int) (g : AMem) : jPr_isRingChanged L a0 a1 a2 g = (jPr_change L a0 a1 g).bind (fun q1 => if q1.1 ≤ 0 then (some (0, q1.2)) else ((jPr_move L a0 a1 q1.2).bind (fun q3 => if iw ((iw (a2 + 1)) * q3.1) ≤ iw ((iw (a2 - 1)) * q1.1) then (some (0, q3.2)) else (some (1, q3.2))))) := by
  unfold jPr_isRingChanged
  refine q_s (pc' := 1) (ls' := [vI a0, vI a1, vI a2, vU]) (st' := [vI a0]) (g' := g) k58_0 rfl rfl ?_
  refine q_s (pc' := 2) (ls' := [vI a0, vI a1, vI a2, vU]) (st' := [vI a1, vI a0]) (g' := g) k58_1 rfl rfl ?_
  refine q_callI (ls0 := [vI a0, vI a1]) (rest := []) (pc' := 5) rfl k58_2 rfl (hy4 rfl rfl rfl rfl) rfl rfl hq_56 rfl (fun q1 => ?_)
  refine q_s (pc' := 6) (ls' := [vI a0, vI a1, vI a2, vI q1.1]) (st' := []) (g' := q1.2) k58_5 rfl rfl ?_
  refine q_s (pc' := 7) (ls' := [vI a0, vI a1, vI a2, vI q1.1]) (st' := [vI q1.1]) (g' := q1.2) k58_6 rfl rfl ?_
  refine q_if (P := q1.1 ≤ 0) (t := 31) (pc' := 10) k58_7 Iff.rfl rfl rfl (fun h2 => ?_) (fun h2 => ?_)
  · refine q_s (pc' := 32) (ls' := [vI a0, vI a1, vI a2, vI q1.1]) (st' := [vI 0]) (g' := q1.2) k58_31 rfl rfl ?_
    exact q_e k58_32 rfl rfl rfl
  · refine q_s (pc' := 11) (ls' := [vI a0, vI a1, vI a2, vI q1.1]) (st' := [vI a2]) (g' := q1.2) k58_10 rfl rfl ?_
    refine q_s (pc' := 12) (ls' := [vI a0, vI a1, vI a2, vI q1.1]) (st' := [vI 1, vI a2]) (g' := q1.2) k58_11 rfl rfl ?_
    refine q_s (pc' := 13) (ls' := [vI a0, vI a1, vI a2, vI q1.1]) (st' := [vI (iw (a2 - 1))]) (g' := q1.2) k58_12 rfl rfl ?_
    refine q_s (pc' := 14) (ls' := [vI a0, vI a1, vI a2, vI q1.1]) (st' := [vI q1.1, vI (iw (a2 - 1))]) (g' := q1.2) k58_13 rfl rfl ?_
    refine q_s (pc' := 15) (ls' := [vI a0, vI a1, vI a2, vI q1.1]) (st' := [vI (iw ((iw (a2 - 1)) * q1.1))]) (g' := q1.2) k58_14 rfl rfl ?_
    refine q_s (pc' := 16) (ls' := [vI a0, vI a1, vI a2, vI q1.1]) (st' := [vI a2, vI (iw ((iw (a2 - 1)) * q1.1))]) (g' := q1.2) k58_15 rfl rfl ?_
    refine q_s (pc' := 17) (ls' := [vI a0, vI a1, vI a2, vI q1.1]) (st' := [vI 1, vI a2, vI (iw ((iw (a2 - 1)) * q1.1))]) (g' := q1.2) k58_16 rfl rfl ?_
    refine q_s (pc' := 18) (ls' := [vI a0, vI a1, vI a2, vI q1.1]) (st' := [vI (iw (a2 + 1)), vI (iw ((iw (a2 - 1)) * q1.1))]) (g' := q1.2) k58_17 rfl rfl ?_
    refine q_s (pc' := 19) (ls' := [vI a0, vI a1, vI a2, vI q1.1]) (st' := [vI a0, vI (iw (a2 + 1)), vI (iw ((iw (a2 - 1)) * q1.1))]) (g' := q1.2) k58_18 rfl rfl ?_
    refine q_s (pc' := 20) (ls' := [vI a0, vI a1, vI a2, vI q1.1]) (st' := [vI a1, vI a0, vI (iw (a2 + 1)), vI (iw ((iw (a2 - 1)) * q1.1))]) (g' := q1.2) k58_19 rfl rfl ?_
    refine q_callI (ls0 := [vI a0, vI a1]) (rest := [vI (iw (a2 + 1)), vI (iw ((iw (a2 - 1)) * q1.1))]) (pc' := 23) rfl k58_20 rfl (hy4 rfl rfl rfl rfl) rfl rfl hq_57 rfl (fun q3 => ?_)
    refine q_s (pc' := 24) (ls' := [vI a0, vI a1, vI a2, vI q1.1]) (st' := [vI (iw ((iw (a2 + 1)) * q3.1)), vI (iw ((iw (a2 - 1)) * q1.1))]) (g' := q3.2) k58_23 rfl rfl ?_
    refine q_ic (P := iw ((iw (a2 + 1)) * q3.1) ≤ iw ((iw (a2 - 1)) * q1.1)) (t := 31) (pc' := 27) k58_24 Iff.rfl rfl rfl (fun h4 => ?_) (fun h4 => ?_)
    · refine q_s (pc' := 32) (ls' := [vI a0, vI a1, vI a2, vI q1.1]) (st' := [vI 0]) (g' := q3.2) k58_31 rfl rfl ?_
      exact q_e k58_32 rfl rfl rfl
    · refine q_s (pc' := 28) (ls' := [vI a0, vI a1, vI a2, vI q1.1]) (st' := [vI 1]) (g' := q3.2) k58_27 rfl rfl ?_
      refine q_s (pc' := 32) (ls' := [vI a0, vI a1, vI a2, vI q1.1]) (st' := [vI 1]) (g' := q3.2) k58_28 rfl rfl ?_
      exact q_e k58_32 rfl rfl rfl
set_option maxHeartbeats 4000000 in
theorem jPl_changeRing_eq (L : Nat) (t0 : Int) (a1 : Int) (a2 : Int) (g : AMem) (ht0 : kin (SH L) t0 = 6) : jPl_changeRing L t0 a1 a2 g = jPl_changeRing_5 L t0 a1 a2 a1 1 vU g := by
  unfold jPl_changeRing
  refine q_s (pc' := 1) (ls' := [vR t0, vI a1, vI a2, vU, vU, vU]) (st' := [vI a1]) (g' := g) k59_0 rfl rfl ?_
  refine q_s (pc' := 2) (ls' := [vR t0, vI a1, vI a2, vI a1, vU, vU]) (st' := []) (g' := g) k59_1 rfl rfl ?_
  refine q_s (pc' := 3) (ls' := [vR t0, vI a1, vI a2, vI a1, vU, vU]) (st' := [vI 1]) (g' := g) k59_2 rfl rfl ?_
  refine q_s (pc' := 5) (ls' := [vR t0, vI a1, vI a2, vI a1, vI 1, vU]) (st' := []) (g' := g) k59_3 rfl rfl ?_
  rfl
set_option maxHeartbeats 4000000 in
theorem jPl_changeRing_5_eq (L : Nat) (t0 : Int) (l1 : Int) (l2 : Int) (l3 : Int) (l4 : Int) (w5 : AVal) (g : AMem) (ht0 : kin (SH L) t0 = 6) : jPl_changeRing_5 L t0 l1 l2 l3 l4 w5 g = if l2 ≤ l4 then (if l3 < 0 then (some g) else ((jPl_close L t0 l3 g).bind (fun q3 => some q3))) else (if l3 < 0 then (if l3 < 0 then (some g) else ((jPl_close L t0 l3 g).bind (fun q6 => some q6))) else (if kin (SH L) (g t0 5) = 20 then (if 0 ≤ l3 ∧ l3 < aln (SH L) (g t0 5) then (if 0 ≤ l3 ∧ l3 < 6 then ((jPl_add L t0 1 (g (g t0 5) l3) (g (t0 + 5) l3) g).bind (fun q10 => if 0 ≤ l3 ∧ l3 < 6 then ((jPl_openAt L t0 (q10 (t0 + 5) l3) q10).bind (fun q12 => (jPl_close L t0 l3 q12.2).bind (fun q13 => jPl_changeRing_5 L t0 l1 l2 q12.1 (iw (l4 + 1)) (vI q12.1) q13))) else none)) else none) else none) else none)) := by
  unfold jPl_changeRing_5
  refine q_s (pc' := 7) (ls' := [vR t0, vI l1, vI l2, vI l3, vI l4, w5]) (st' := [vI l4]) (g' := g) k59_5 rfl rfl ?_
  refine q_s (pc' := 8) (ls' := [vR t0, vI l1, vI l2, vI l3, vI l4, w5]) (st' := [vI l2, vI l4]) (g' := g) k59_7 rfl rfl ?_
  refine q_ic (P := l2 ≤ l4) (t := 58) (pc' := 11) k59_8 Iff.rfl rfl rfl (fun h1 => ?_) (fun h1 => ?_)
  · refine q_s (pc' := 59) (ls' := [vR t0, vI l1, vI l2, vI l3, vI l4, w5]) (st' := [vI l3]) (g' := g) k59_58 rfl rfl ?_
    refine q_if (P := l3 < 0) (t := 67) (pc' := 62) k59_59 Iff.rfl rfl rfl (fun h2 => ?_) (fun h2 => ?_)
    · exact q_e k59_67 rfl rfl rfl
    · refine q_ldR_n (pc' := 63) k59_62 rfl rfl (by have := (k2 ht0 (by decide)); omega) ?_
      refine q_s (pc' := 64) (ls' := [vR t0, vI l1, vI l2, vI l3, vI l4, w5]) (st' := [vI l3, vR t0]) (g' := g) k59_63 rfl rfl ?_
      refine q_callV (ls0 := [vR t0, vI l3]) (rest := []) (pc' := 67) rfl k59_64 rfl (hy4 rfl rfl (rcv0 rfl ht0) rfl) rfl rfl hq_51 rfl (fun q3 => ?_)
      exact q_e k59_67 rfl rfl rfl
  · refine q_s (pc' := 12) (ls' := [vR t0, vI l1, vI l2, vI l3, vI l4, w5]) (st' := [vI l3]) (g' := g) k59_11 rfl rfl ?_
    refine q_if (P := l3 < 0) (t := 58) (pc' := 15) k59_12 Iff.rfl rfl rfl (fun h4 => ?_) (fun h4 => ?_)
    · refine q_s (pc' := 59) (ls' := [vR t0, vI l1, vI l2, vI l3, vI l4, w5]) (st' := [vI l3]) (g' := g) k59_58 rfl rfl ?_
      refine q_if (P := l3 < 0) (t := 67) (pc' := 62) k59_59 Iff.rfl rfl rfl (fun h5 => ?_) (fun h5 => ?_)
      · exact q_e k59_67 rfl rfl rfl
      · refine q_ldR_n (pc' := 63) k59_62 rfl rfl (by have := (k2 ht0 (by decide)); omega) ?_
        refine q_s (pc' := 64) (ls' := [vR t0, vI l1, vI l2, vI l3, vI l4, w5]) (st' := [vI l3, vR t0]) (g' := g) k59_63 rfl rfl ?_
        refine q_callV (ls0 := [vR t0, vI l3]) (rest := []) (pc' := 67) rfl k59_64 rfl (hy4 rfl rfl (rcv0 rfl ht0) rfl) rfl rfl hq_51 rfl (fun q6 => ?_)
        exact q_e k59_67 rfl rfl rfl
    · refine q_ldR_n (pc' := 16) k59_15 rfl rfl (by have := (k2 ht0 (by decide)); omega) ?_
      refine q_s (pc' := 17) (ls' := [vR t0, vI l1, vI l2, vI l3, vI l4, w5]) (st' := [vI 1, vR t0]) (g' := g) k59_16 rfl rfl ?_
      refine q_ldR_n (pc' := 18) k59_17 rfl rfl (by have := (k2 ht0 (by decide)); omega) ?_
      refine q_getM (w := 5) (c := 20) (pc' := 21) rfl k59_18 ht0 rfl rfl rfl rfl (fun h7 => ?_)
      refine q_s (pc' := 22) (ls' := [vR t0, vI l1, vI l2, vI l3, vI l4, w5]) (st' := [vI l3, vR (g t0 5), vI 1, vR t0]) (g' := g) k59_21 rfl rfl ?_
      refine q_iald (n := aln (SH L) (g t0 5)) (pc' := 23) rfl k59_22 rfl rfl (fun h8 => ?_)
      refine q_ldR_n (pc' := 24) k59_23 rfl rfl (by have := (k2 ht0 (by decide)); omega) ?_
      refine q_getF (r := t0 + 5) (pc' := 27) k59_24 ht0 rfl (kP_f ht0).2.2.2.1 rfl ?_
      refine q_s (pc' := 28) (ls' := [vR t0, vI l1, vI l2, vI l3, vI l4, w5]) (st' := [vI l3, vR (t0 + 5), vI (g (g t0 5) l3), vI 1, vR t0]) (g' := g) k59_27 rfl rfl ?_
      refine q_iald (n := 6) (pc' := 29) rfl k59_28 (kP_f ht0).2.2.2.2.2.2.2.2.1 rfl (fun h9 => ?_)
      refine q_callV (ls0 := [vR t0, vI 1, vI (g (g t0 5) l3), vI (g (t0 + 5) l3)]) (rest := []) (pc' := 32) rfl k59_29 rfl (hy4 rfl rfl (rcv0 rfl ht0) rfl) rfl rfl hq_50 rfl (fun q10 => ?_)
      refine q_ldR_n (pc' := 33) k59_32 rfl rfl (by have := (k2 ht0 (by decide)); omega) ?_
      refine q_ldR_n (pc' := 34) k59_33 rfl rfl (by have := (k2 ht0 (by decide)); omega) ?_
      refine q_getF (r := t0 + 5) (pc' := 37) k59_34 ht0 rfl (kP_f ht0).2.2.2.1 rfl ?_
      refine q_s (pc' := 38) (ls' := [vR t0, vI l1, vI l2, vI l3, vI l4, w5]) (st' := [vI l3, vR (t0 + 5), vR t0]) (g' := q10) k59_37 rfl rfl ?_
      refine q_iald (n := 6) (pc' := 39) rfl k59_38 (kP_f ht0).2.2.2.2.2.2.2.2.1 rfl (fun h11 => ?_)
      refine q_callI (ls0 := [vR t0, vI (q10 (t0 + 5) l3), vU]) (rest := []) (pc' := 42) rfl k59_39 rfl (hy4 rfl rfl (rcv0 rfl ht0) rfl) rfl rfl hq_54 rfl (fun q12 => ?_)
      refine q_s (pc' := 44) (ls' := [vR t0, vI l1, vI l2, vI l3, vI l4, vI q12.1]) (st' := []) (g' := q12.2) k59_42 rfl rfl ?_
      refine q_ldR_n (pc' := 45) k59_44 rfl rfl (by have := (k2 ht0 (by decide)); omega) ?_
      refine q_s (pc' := 46) (ls' := [vR t0, vI l1, vI l2, vI l3, vI l4, vI q12.1]) (st' := [vI l3, vR t0]) (g' := q12.2) k59_45 rfl rfl ?_
      refine q_callV (ls0 := [vR t0, vI l3]) (rest := []) (pc' := 49) rfl k59_46 rfl (hy4 rfl rfl (rcv0 rfl ht0) rfl) rfl rfl hq_51 rfl (fun q13 => ?_)
      refine q_s (pc' := 51) (ls' := [vR t0, vI l1, vI l2, vI l3, vI l4, vI q12.1]) (st' := [vI q12.1]) (g' := q13) k59_49 rfl rfl ?_
      refine q_s (pc' := 52) (ls' := [vR t0, vI l1, vI l2, vI q12.1, vI l4, vI q12.1]) (st' := []) (g' := q13) k59_51 rfl rfl ?_
      refine q_s (pc' := 55) (ls' := [vR t0, vI l1, vI l2, vI q12.1, vI (iw (l4 + 1)), vI q12.1]) (st' := []) (g' := q13) k59_52 rfl rfl ?_
      refine q_s (pc' := 5) (ls' := [vR t0, vI l1, vI l2, vI q12.1, vI (iw (l4 + 1)), vI q12.1]) (st' := []) (g' := q13) k59_55 rfl rfl ?_
      rfl
set_option maxHeartbeats 4000000 in
theorem jRg_asTold_eq (L : Nat) (a0 : Int) (a1 : Int) (g : AMem) : jRg_asTold L a0 a1 g = some (iw ((iw (10 * a0)) + a1), g) := by
  unfold jRg_asTold
  refine q_s (pc' := 2) (ls' := [vI a0, vI a1]) (st' := [vI 10]) (g' := g) k60_0 rfl rfl ?_
  refine q_s (pc' := 3) (ls' := [vI a0, vI a1]) (st' := [vI a0, vI 10]) (g' := g) k60_2 rfl rfl ?_
  refine q_s (pc' := 4) (ls' := [vI a0, vI a1]) (st' := [vI (iw (10 * a0))]) (g' := g) k60_3 rfl rfl ?_
  refine q_s (pc' := 5) (ls' := [vI a0, vI a1]) (st' := [vI a1, vI (iw (10 * a0))]) (g' := g) k60_4 rfl rfl ?_
  refine q_s (pc' := 6) (ls' := [vI a0, vI a1]) (st' := [vI (iw ((iw (10 * a0)) + a1))]) (g' := g) k60_5 rfl rfl ?_
  exact q_e k60_6 rfl rfl rfl
set_option maxHeartbeats 4000000 in
theorem jPl_breakRing_eq (L : Nat) (t0 : Int) (a1 : Int) (g : AMem) (ht0 : kin (SH L) t0 = 6) : jPl_breakRing L t0 a1 g = if 0 ≤ a1 then ((jPl_ringSize L t0 a1 g).bind (fun q2 => if kin (SH L) (q2.2 t0 5) = 20 then (if 0 ≤ a1 ∧ a1 < aln (SH L) (q2.2 t0 5) then ((jRg_width L (q2.2 (q2.2 t0 5) a1) q2.2).bind (fun q5 => (jPr_isRingChanged L (q5.2 t0 4) q5.1 q2.1 q5.2).bind (fun q6 => if q6.1 = 0 then ((jRg_asTold L 32 q5.1 q6.2).bind (fun q8 => if kin (SH L) (q8.2 t0 5) = 20 then (if 0 ≤ a1 ∧ a1 < aln (SH L) (q8.2 t0 5) then ((jPl_add L t0 0 q8.1 (q8.2 (q8.2 t0 5) a1) q8.2).bind (fun q11 => if kin (SH L) (q11 t0 5) = 20 then (if 0 ≤ a1 ∧ a1 < aln (SH L) (q11 t0 5) then ((jPl_moveWhatLies L t0 (q11 (q11 t0 5) a1) q8.1 q11).bind (fun q14 => some q14)) else none) else none)) else none) else none)) else ((jPl_changeRing L t0 a1 q2.1 q6.2).bind (fun q15 => some q15))))) else none) else none)) else (some g) := by
  unfold jPl_breakRing
  refine q_s (pc' := 1) (ls' := [vR t0, vI a1, vU, vU, vU]) (st' := [vI a1]) (g' := g) k61_0 rfl rfl ?_
  refine q_if (P := 0 ≤ a1) (t := 5) (pc' := 4) k61_1 Iff.rfl rfl rfl (fun h1 => ?_) (fun h1 => ?_)
  · refine q_ldR_n (pc' := 6) k61_5 rfl rfl (by have := (k2 ht0 (by decide)); omega) ?_
    refine q_s (pc' := 7) (ls' := [vR t0, vI a1, vU, vU, vU]) (st' := [vI a1, vR t0]) (g' := g) k61_6 rfl rfl ?_
    refine q_callI (ls0 := [vR t0, vI a1, vU, vU]) (rest := []) (pc' := 10) rfl k61_7 rfl (hy4 rfl rfl (rcv0 rfl ht0) rfl) rfl rfl hq_55 rfl (fun q2 => ?_)
    refine q_s (pc' := 11) (ls' := [vR t0, vI a1, vI q2.1, vU, vU]) (st' := []) (g' := q2.2) k61_10 rfl rfl ?_
    refine q_ldR_n (pc' := 12) k61_11 rfl rfl (by have := (k2 ht0 (by decide)); omega) ?_
    refine q_getM (w := 5) (c := 20) (pc' := 15) rfl k61_12 ht0 rfl rfl rfl rfl (fun h3 => ?_)
    refine q_s (pc' := 16) (ls' := [vR t0, vI a1, vI q2.1, vU, vU]) (st' := [vI a1, vR (q2.2 t0 5)]) (g' := q2.2) k61_15 rfl rfl ?_
    refine q_iald (n := aln (SH L) (q2.2 t0 5)) (pc' := 17) rfl k61_16 rfl rfl (fun h4 => ?_)
    refine q_callI (ls0 := [vI (q2.2 (q2.2 t0 5) a1)]) (rest := []) (pc' := 20) rfl k61_17 rfl (hy4 rfl rfl rfl rfl) rfl rfl hq_2 rfl (fun q5 => ?_)
    refine q_s (pc' := 21) (ls' := [vR t0, vI a1, vI q2.1, vI q5.1, vU]) (st' := []) (g' := q5.2) k61_20 rfl rfl ?_
    refine q_ldR_n (pc' := 22) k61_21 rfl rfl (by have := (k2 ht0 (by decide)); omega) ?_
    refine q_getI (w := 4) (pc' := 25) k61_22 ht0 rfl rfl rfl ?_
    refine q_s (pc' := 26) (ls' := [vR t0, vI a1, vI q2.1, vI q5.1, vU]) (st' := [vI q5.1, vI (q5.2 t0 4)]) (g' := q5.2) k61_25 rfl rfl ?_
    refine q_s (pc' := 27) (ls' := [vR t0, vI a1, vI q2.1, vI q5.1, vU]) (st' := [vI q2.1, vI q5.1, vI (q5.2 t0 4)]) (g' := q5.2) k61_26 rfl rfl ?_
    refine q_callI (ls0 := [vI (q5.2 t0 4), vI q5.1, vI q2.1, vU]) (rest := []) (pc' := 30) rfl k61_27 rfl (hy4 rfl rfl rfl rfl) rfl rfl hq_58 rfl (fun q6 => ?_)
    refine q_if (P := q6.1 = 0) (t := 42) (pc' := 33) k61_30 Iff.rfl rfl rfl (fun h7 => ?_) (fun h7 => ?_)
    · refine q_s (pc' := 44) (ls' := [vR t0, vI a1, vI q2.1, vI q5.1, vU]) (st' := [vI 32]) (g' := q6.2) k61_42 rfl rfl ?_
      refine q_s (pc' := 45) (ls' := [vR t0, vI a1, vI q2.1, vI q5.1, vU]) (st' := [vI q5.1, vI 32]) (g' := q6.2) k61_44 rfl rfl ?_
      refine q_callI (ls0 := [vI 32, vI q5.1]) (rest := []) (pc' := 48) rfl k61_45 rfl (hy4 rfl rfl rfl rfl) rfl rfl hq_60 rfl (fun q8 => ?_)
      refine q_s (pc' := 50) (ls' := [vR t0, vI a1, vI q2.1, vI q5.1, vI q8.1]) (st' := []) (g' := q8.2) k61_48 rfl rfl ?_
      refine q_ldR_n (pc' := 51) k61_50 rfl rfl (by have := (k2 ht0 (by decide)); omega) ?_
      refine q_s (pc' := 52) (ls' := [vR t0, vI a1, vI q2.1, vI q5.1, vI q8.1]) (st' := [vI 0, vR t0]) (g' := q8.2) k61_51 rfl rfl ?_
      refine q_s (pc' := 54) (ls' := [vR t0, vI a1, vI q2.1, vI q5.1, vI q8.1]) (st' := [vI q8.1, vI 0, vR t0]) (g' := q8.2) k61_52 rfl rfl ?_
      refine q_ldR_n (pc' := 55) k61_54 rfl rfl (by have := (k2 ht0 (by decide)); omega) ?_
      refine q_getM (w := 5) (c := 20) (pc' := 58) rfl k61_55 ht0 rfl rfl rfl rfl (fun h9 => ?_)
      refine q_s (pc' := 59) (ls' := [vR t0, vI a1, vI q2.1, vI q5.1, vI q8.1]) (st' := [vI a1, vR (q8.2 t0 5), vI q8.1, vI 0, vR t0]) (g' := q8.2) k61_58 rfl rfl ?_
      refine q_iald (n := aln (SH L) (q8.2 t0 5)) (pc' := 60) rfl k61_59 rfl rfl (fun h10 => ?_)
      refine q_callV (ls0 := [vR t0, vI 0, vI q8.1, vI (q8.2 (q8.2 t0 5) a1)]) (rest := []) (pc' := 63) rfl k61_60 rfl (hy4 rfl rfl (rcv0 rfl ht0) rfl) rfl rfl hq_50 rfl (fun q11 => ?_)
      refine q_ldR_n (pc' := 64) k61_63 rfl rfl (by have := (k2 ht0 (by decide)); omega) ?_
      refine q_ldR_n (pc' := 65) k61_64 rfl rfl (by have := (k2 ht0 (by decide)); omega) ?_
      refine q_getM (w := 5) (c := 20) (pc' := 68) rfl k61_65 ht0 rfl rfl rfl rfl (fun h12 => ?_)
      refine q_s (pc' := 69) (ls' := [vR t0, vI a1, vI q2.1, vI q5.1, vI q8.1]) (st' := [vI a1, vR (q11 t0 5), vR t0]) (g' := q11) k61_68 rfl rfl ?_
      refine q_iald (n := aln (SH L) (q11 t0 5)) (pc' := 70) rfl k61_69 rfl rfl (fun h13 => ?_)
      refine q_s (pc' := 72) (ls' := [vR t0, vI a1, vI q2.1, vI q5.1, vI q8.1]) (st' := [vI q8.1, vI (q11 (q11 t0 5) a1), vR t0]) (g' := q11) k61_70 rfl rfl ?_
      refine q_callV (ls0 := [vR t0, vI (q11 (q11 t0 5) a1), vI q8.1, vU]) (rest := []) (pc' := 75) rfl k61_72 rfl (hy4 rfl rfl (rcv0 rfl ht0) rfl) rfl rfl hq_52 rfl (fun q14 => ?_)
      exact q_e k61_75 rfl rfl rfl
    · refine q_ldR_n (pc' := 34) k61_33 rfl rfl (by have := (k2 ht0 (by decide)); omega) ?_
      refine q_s (pc' := 35) (ls' := [vR t0, vI a1, vI q2.1, vI q5.1, vU]) (st' := [vI a1, vR t0]) (g' := q6.2) k61_34 rfl rfl ?_
      refine q_s (pc' := 36) (ls' := [vR t0, vI a1, vI q2.1, vI q5.1, vU]) (st' := [vI q2.1, vI a1, vR t0]) (g' := q6.2) k61_35 rfl rfl ?_
      refine q_callV (ls0 := [vR t0, vI a1, vI q2.1, vU, vU, vU]) (rest := []) (pc' := 39) rfl k61_36 rfl (hy4 rfl rfl (rcv0 rfl ht0) rfl) rfl rfl hq_59 rfl (fun q15 => ?_)
      refine q_s (pc' := 75) (ls' := [vR t0, vI a1, vI q2.1, vI q5.1, vU]) (st' := []) (g' := q15) k61_39 rfl rfl ?_
      exact q_e k61_75 rfl rfl rfl
  · exact q_e k61_4 rfl rfl rfl
set_option maxHeartbeats 4000000 in
theorem jPl_leastSetBehind_eq (L : Nat) (t0 : Int) (a2 : Int) (g : AMem) (ht0 : kin (SH L) t0 = 6) : jPl_leastSetBehind L t0 a2 g = jPl_leastSetBehind_5 L t0 a2 (-1) 0 vU g := by
  unfold jPl_leastSetBehind
  refine q_s (pc' := 1) (ls' := [vR t0, vR 116, vI a2, vU, vU, vU]) (st' := [vI (-1)]) (g' := g) k62_0 rfl rfl ?_
  refine q_s (pc' := 2) (ls' := [vR t0, vR 116, vI a2, vI (-1), vU, vU]) (st' := []) (g' := g) k62_1 rfl rfl ?_
  refine q_s (pc' := 3) (ls' := [vR t0, vR 116, vI a2, vI (-1), vU, vU]) (st' := [vI 0]) (g' := g) k62_2 rfl rfl ?_
  refine q_s (pc' := 5) (ls' := [vR t0, vR 116, vI a2, vI (-1), vI 0, vU]) (st' := []) (g' := g) k62_3 rfl rfl ?_
  rfl
set_option maxHeartbeats 4000000 in
theorem jPl_leastSetBehind_5_eq (L : Nat) (t0 : Int) (l2 : Int) (l3 : Int) (l4 : Int) (w5 : AVal) (g : AMem) (ht0 : kin (SH L) t0 = 6) : jPl_leastSetBehind_5 L t0 l2 l3 l4 w5 g = if g t0 6 ≤ l4 then (some (l3, g)) else ((jHo_isSet L l4 g).bind (fun q2 => if q2.1 = 0 then (jPl_leastSetBehind_5 L t0 l2 l3 (iw (l4 + 1)) (vI 0) q2.2) else (if kin (SH L) (q2.2 t0 5) = 20 then (if 0 ≤ l4 ∧ l4 < aln (SH L) (q2.2 t0 5) then (if q2.2 (q2.2 t0 5) l4 ≤ l2 then (jPl_leastSetBehind_5 L t0 l2 l3 (iw (l4 + 1)) (vI 0) q2.2) else (if l3 < 0 then (jPl_leastSetBehind_5 L t0 l2 l4 (iw (l4 + 1)) (vI 1) q2.2) else (if kin (SH L) (q2.2 t0 5) = 20 then (if 0 ≤ l4 ∧ l4 < aln (SH L) (q2.2 t0 5) then (if kin (SH L) (q2.2 t0 5) = 20 then (if 0 ≤ l3 ∧ l3 < aln (SH L) (q2.2 t0 5) then (if q2.2 (q2.2 t0 5) l3 ≤ q2.2 (q2.2 t0 5) l4 then (jPl_leastSetBehind_5 L t0 l2 l3 (iw (l4 + 1)) (vI 1) q2.2) else (jPl_leastSetBehind_5 L t0 l2 l4 (iw (l4 + 1)) (vI 1) q2.2)) else none) else none) else none) else none))) else none) else none))) := by
  unfold jPl_leastSetBehind_5
  refine q_s (pc' := 7) (ls' := [vR t0, vR 116, vI l2, vI l3, vI l4, w5]) (st' := [vI l4]) (g' := g) k62_5 rfl rfl ?_
  refine q_ldR_n (pc' := 8) k62_7 rfl rfl (by have := (k2 ht0 (by decide)); omega) ?_
  refine q_getI (w := 6) (pc' := 11) k62_8 ht0 rfl rfl rfl ?_
  refine q_ic (P := g t0 6 ≤ l4) (t := 75) (pc' := 14) k62_11 Iff.rfl rfl rfl (fun h1 => ?_) (fun h1 => ?_)
  · refine q_s (pc' := 76) (ls' := [vR t0, vR 116, vI l2, vI l3, vI l4, w5]) (st' := [vI l3]) (g' := g) k62_75 rfl rfl ?_
    exact q_e k62_76 rfl rfl rfl
  · refine q_s (pc' := 15) (ls' := [vR t0, vR 116, vI l2, vI l3, vI l4, w5]) (st' := [vR 116]) (g' := g) k62_14 rfl rfl ?_
    refine q_s (pc' := 17) (ls' := [vR t0, vR 116, vI l2, vI l3, vI l4, w5]) (st' := [vI l4, vR 116]) (g' := g) k62_15 rfl rfl ?_
    refine q_callI (ls0 := [vR 116, vI l4]) (rest := []) (pc' := 20) rfl k62_17 rfl (hy4 rfl rfl rfl rfl) rfl rfl hq_25 rfl (fun q2 => ?_)
    refine q_if (P := q2.1 = 0) (t := 38) (pc' := 23) k62_20 Iff.rfl rfl rfl (fun h3 => ?_) (fun h3 => ?_)
    · refine q_s (pc' := 39) (ls' := [vR t0, vR 116, vI l2, vI l3, vI l4, w5]) (st' := [vI 0]) (g' := q2.2) k62_38 rfl rfl ?_
      refine q_s (pc' := 41) (ls' := [vR t0, vR 116, vI l2, vI l3, vI l4, vI 0]) (st' := []) (g' := q2.2) k62_39 rfl rfl ?_
      refine q_s (pc' := 43) (ls' := [vR t0, vR 116, vI l2, vI l3, vI l4, vI 0]) (st' := [vI 0]) (g' := q2.2) k62_41 rfl rfl ?_
      refine q_s (pc' := 69) (ls' := [vR t0, vR 116, vI l2, vI l3, vI l4, vI 0]) (st' := []) (g' := q2.2) k62_43 rfl rfl ?_
      refine q_s (pc' := 72) (ls' := [vR t0, vR 116, vI l2, vI l3, vI (iw (l4 + 1)), vI 0]) (st' := []) (g' := q2.2) k62_69 rfl rfl ?_
      refine q_s (pc' := 5) (ls' := [vR t0, vR 116, vI l2, vI l3, vI (iw (l4 + 1)), vI 0]) (st' := []) (g' := q2.2) k62_72 rfl rfl ?_
      rfl
    · refine q_ldR_n (pc' := 24) k62_23 rfl rfl (by have := (k2 ht0 (by decide)); omega) ?_
      refine q_getM (w := 5) (c := 20) (pc' := 27) rfl k62_24 ht0 rfl rfl rfl rfl (fun h4 => ?_)
      refine q_s (pc' := 29) (ls' := [vR t0, vR 116, vI l2, vI l3, vI l4, w5]) (st' := [vI l4, vR (q2.2 t0 5)]) (g' := q2.2) k62_27 rfl rfl ?_
      refine q_iald (n := aln (SH L) (q2.2 t0 5)) (pc' := 30) rfl k62_29 rfl rfl (fun h5 => ?_)
      refine q_s (pc' := 31) (ls' := [vR t0, vR 116, vI l2, vI l3, vI l4, w5]) (st' := [vI l2, vI (q2.2 (q2.2 t0 5) l4)]) (g' := q2.2) k62_30 rfl rfl ?_
      refine q_ic (P := q2.2 (q2.2 t0 5) l4 ≤ l2) (t := 38) (pc' := 34) k62_31 Iff.rfl rfl rfl (fun h6 => ?_) (fun h6 => ?_)
      · refine q_s (pc' := 39) (ls' := [vR t0, vR 116, vI l2, vI l3, vI l4, w5]) (st' := [vI 0]) (g' := q2.2) k62_38 rfl rfl ?_
        refine q_s (pc' := 41) (ls' := [vR t0, vR 116, vI l2, vI l3, vI l4, vI 0]) (st' := []) (g' := q2.2) k62_39 rfl rfl ?_
        refine q_s (pc' := 43) (ls' := [vR t0, vR 116, vI l2, vI l3, vI l4, vI 0]) (st' := [vI 0]) (g' := q2.2) k62_41 rfl rfl ?_
        refine q_s (pc' := 69) (ls' := [vR t0, vR 116, vI l2, vI l3, vI l4, vI 0]) (st' := []) (g' := q2.2) k62_43 rfl rfl ?_
        refine q_s (pc' := 72) (ls' := [vR t0, vR 116, vI l2, vI l3, vI (iw (l4 + 1)), vI 0]) (st' := []) (g' := q2.2) k62_69 rfl rfl ?_
        refine q_s (pc' := 5) (ls' := [vR t0, vR 116, vI l2, vI l3, vI (iw (l4 + 1)), vI 0]) (st' := []) (g' := q2.2) k62_72 rfl rfl ?_
        rfl
      · refine q_s (pc' := 35) (ls' := [vR t0, vR 116, vI l2, vI l3, vI l4, w5]) (st' := [vI 1]) (g' := q2.2) k62_34 rfl rfl ?_
        refine q_s (pc' := 39) (ls' := [vR t0, vR 116, vI l2, vI l3, vI l4, w5]) (st' := [vI 1]) (g' := q2.2) k62_35 rfl rfl ?_
        refine q_s (pc' := 41) (ls' := [vR t0, vR 116, vI l2, vI l3, vI l4, vI 1]) (st' := []) (g' := q2.2) k62_39 rfl rfl ?_
        refine q_s (pc' := 43) (ls' := [vR t0, vR 116, vI l2, vI l3, vI l4, vI 1]) (st' := [vI 1]) (g' := q2.2) k62_41 rfl rfl ?_
        refine q_s (pc' := 46) (ls' := [vR t0, vR 116, vI l2, vI l3, vI l4, vI 1]) (st' := []) (g' := q2.2) k62_43 rfl rfl ?_
        refine q_s (pc' := 47) (ls' := [vR t0, vR 116, vI l2, vI l3, vI l4, vI 1]) (st' := [vI l3]) (g' := q2.2) k62_46 rfl rfl ?_
        refine q_if (P := l3 < 0) (t := 66) (pc' := 50) k62_47 Iff.rfl rfl rfl (fun h7 => ?_) (fun h7 => ?_)
        · refine q_s (pc' := 68) (ls' := [vR t0, vR 116, vI l2, vI l3, vI l4, vI 1]) (st' := [vI l4]) (g' := q2.2) k62_66 rfl rfl ?_
          refine q_s (pc' := 69) (ls' := [vR t0, vR 116, vI l2, vI l4, vI l4, vI 1]) (st' := []) (g' := q2.2) k62_68 rfl rfl ?_
          refine q_s (pc' := 72) (ls' := [vR t0, vR 116, vI l2, vI l4, vI (iw (l4 + 1)), vI 1]) (st' := []) (g' := q2.2) k62_69 rfl rfl ?_
          refine q_s (pc' := 5) (ls' := [vR t0, vR 116, vI l2, vI l4, vI (iw (l4 + 1)), vI 1]) (st' := []) (g' := q2.2) k62_72 rfl rfl ?_
          rfl
        · refine q_ldR_n (pc' := 51) k62_50 rfl rfl (by have := (k2 ht0 (by decide)); omega) ?_
          refine q_getM (w := 5) (c := 20) (pc' := 54) rfl k62_51 ht0 rfl rfl rfl rfl (fun h8 => ?_)
          refine q_s (pc' := 56) (ls' := [vR t0, vR 116, vI l2, vI l3, vI l4, vI 1]) (st' := [vI l4, vR (q2.2 t0 5)]) (g' := q2.2) k62_54 rfl rfl ?_
          refine q_iald (n := aln (SH L) (q2.2 t0 5)) (pc' := 57) rfl k62_56 rfl rfl (fun h9 => ?_)
          refine q_ldR_n (pc' := 58) k62_57 rfl rfl (by have := (k2 ht0 (by decide)); omega) ?_
          refine q_getM (w := 5) (c := 20) (pc' := 61) rfl k62_58 ht0 rfl rfl rfl rfl (fun h10 => ?_)
          refine q_s (pc' := 62) (ls' := [vR t0, vR 116, vI l2, vI l3, vI l4, vI 1]) (st' := [vI l3, vR (q2.2 t0 5), vI (q2.2 (q2.2 t0 5) l4)]) (g' := q2.2) k62_61 rfl rfl ?_
          refine q_iald (n := aln (SH L) (q2.2 t0 5)) (pc' := 63) rfl k62_62 rfl rfl (fun h11 => ?_)
          refine q_ic (P := q2.2 (q2.2 t0 5) l3 ≤ q2.2 (q2.2 t0 5) l4) (t := 69) (pc' := 66) k62_63 Iff.rfl rfl rfl (fun h12 => ?_) (fun h12 => ?_)
          · refine q_s (pc' := 72) (ls' := [vR t0, vR 116, vI l2, vI l3, vI (iw (l4 + 1)), vI 1]) (st' := []) (g' := q2.2) k62_69 rfl rfl ?_
            refine q_s (pc' := 5) (ls' := [vR t0, vR 116, vI l2, vI l3, vI (iw (l4 + 1)), vI 1]) (st' := []) (g' := q2.2) k62_72 rfl rfl ?_
            rfl
          · refine q_s (pc' := 68) (ls' := [vR t0, vR 116, vI l2, vI l3, vI l4, vI 1]) (st' := [vI l4]) (g' := q2.2) k62_66 rfl rfl ?_
            refine q_s (pc' := 69) (ls' := [vR t0, vR 116, vI l2, vI l4, vI l4, vI 1]) (st' := []) (g' := q2.2) k62_68 rfl rfl ?_
            refine q_s (pc' := 72) (ls' := [vR t0, vR 116, vI l2, vI l4, vI (iw (l4 + 1)), vI 1]) (st' := []) (g' := q2.2) k62_69 rfl rfl ?_
            refine q_s (pc' := 5) (ls' := [vR t0, vR 116, vI l2, vI l4, vI (iw (l4 + 1)), vI 1]) (st' := []) (g' := q2.2) k62_72 rfl rfl ?_
            rfl
set_option maxHeartbeats 4000000 in
theorem jPl_addSettings_eq (L : Nat) (t0 : Int) (g : AMem) (ht0 : kin (SH L) t0 = 6) : jPl_addSettings L t0 g = jPl_addSettings_4 L t0 (-1) 0 vU g := by
  unfold jPl_addSettings
  refine q_s (pc' := 1) (ls' := [vR t0, vR 116, vU, vU, vU]) (st' := [vI (-1)]) (g' := g) k63_0 rfl rfl ?_
  refine q_s (pc' := 2) (ls' := [vR t0, vR 116, vI (-1), vU, vU]) (st' := []) (g' := g) k63_1 rfl rfl ?_
  refine q_s (pc' := 3) (ls' := [vR t0, vR 116, vI (-1), vU, vU]) (st' := [vI 0]) (g' := g) k63_2 rfl rfl ?_
  refine q_s (pc' := 4) (ls' := [vR t0, vR 116, vI (-1), vI 0, vU]) (st' := []) (g' := g) k63_3 rfl rfl ?_
  rfl
set_option maxHeartbeats 4000000 in
theorem jPl_addSettings_4_eq (L : Nat) (t0 : Int) (l2 : Int) (l3 : Int) (w4 : AVal) (g : AMem) (ht0 : kin (SH L) t0 = 6) : jPl_addSettings_4 L t0 l2 l3 w4 g = if g t0 6 ≤ l3 then (some g) else ((jPl_leastSetBehind L t0 l2 g).bind (fun q2 => if q2.1 < 0 then (jPl_addSettings_4 L t0 l2 (iw (l3 + 1)) (vI q2.1) q2.2) else (if kin (SH L) (q2.2 t0 5) = 20 then (if 0 ≤ q2.1 ∧ q2.1 < aln (SH L) (q2.2 t0 5) then (if kin (SH L) (q2.2 116 1) = 20 then (if 0 ≤ q2.1 ∧ q2.1 < aln (SH L) (q2.2 116 1) then ((jPl_add L t0 2 (q2.2 (q2.2 t0 5) q2.1) (q2.2 (q2.2 116 1) q2.1) q2.2).bind (fun q8 => jPl_addSettings_4 L t0 (q2.2 (q2.2 t0 5) q2.1) (iw (l3 + 1)) (vI q2.1) q8)) else none) else none) else none) else none))) := by
  unfold jPl_addSettings_4
  refine q_s (pc' := 5) (ls' := [vR t0, vR 116, vI l2, vI l3, w4]) (st' := [vI l3]) (g' := g) k63_4 rfl rfl ?_
  refine q_ldR_n (pc' := 6) k63_5 rfl rfl (by have := (k2 ht0 (by decide)); omega) ?_
  refine q_getI (w := 6) (pc' := 9) k63_6 ht0 rfl rfl rfl ?_
  refine q_ic (P := g t0 6 ≤ l3) (t := 52) (pc' := 12) k63_9 Iff.rfl rfl rfl (fun h1 => ?_) (fun h1 => ?_)
  · exact q_e k63_52 rfl rfl rfl
  · refine q_ldR_n (pc' := 13) k63_12 rfl rfl (by have := (k2 ht0 (by decide)); omega) ?_
    refine q_s (pc' := 14) (ls' := [vR t0, vR 116, vI l2, vI l3, w4]) (st' := [vR 116, vR t0]) (g' := g) k63_13 rfl rfl ?_
    refine q_s (pc' := 15) (ls' := [vR t0, vR 116, vI l2, vI l3, w4]) (st' := [vI l2, vR 116, vR t0]) (g' := g) k63_14 rfl rfl ?_
    refine q_callI (ls0 := [vR t0, vR 116, vI l2, vU, vU, vU]) (rest := []) (pc' := 18) rfl k63_15 rfl (hy4 rfl rfl (rcv0 rfl ht0) rfl) rfl rfl hq_62 rfl (fun q2 => ?_)
    refine q_s (pc' := 20) (ls' := [vR t0, vR 116, vI l2, vI l3, vI q2.1]) (st' := []) (g' := q2.2) k63_18 rfl rfl ?_
    refine q_s (pc' := 22) (ls' := [vR t0, vR 116, vI l2, vI l3, vI q2.1]) (st' := [vI q2.1]) (g' := q2.2) k63_20 rfl rfl ?_
    refine q_if (P := q2.1 < 0) (t := 46) (pc' := 25) k63_22 Iff.rfl rfl rfl (fun h3 => ?_) (fun h3 => ?_)
    · refine q_s (pc' := 49) (ls' := [vR t0, vR 116, vI l2, vI (iw (l3 + 1)), vI q2.1]) (st' := []) (g' := q2.2) k63_46 rfl rfl ?_
      refine q_s (pc' := 4) (ls' := [vR t0, vR 116, vI l2, vI (iw (l3 + 1)), vI q2.1]) (st' := []) (g' := q2.2) k63_49 rfl rfl ?_
      rfl
    · refine q_ldR_n (pc' := 26) k63_25 rfl rfl (by have := (k2 ht0 (by decide)); omega) ?_
      refine q_getM (w := 5) (c := 20) (pc' := 29) rfl k63_26 ht0 rfl rfl rfl rfl (fun h4 => ?_)
      refine q_s (pc' := 31) (ls' := [vR t0, vR 116, vI l2, vI l3, vI q2.1]) (st' := [vI q2.1, vR (q2.2 t0 5)]) (g' := q2.2) k63_29 rfl rfl ?_
      refine q_iald (n := aln (SH L) (q2.2 t0 5)) (pc' := 32) rfl k63_31 rfl rfl (fun h5 => ?_)
      refine q_s (pc' := 33) (ls' := [vR t0, vR 116, vI (q2.2 (q2.2 t0 5) q2.1), vI l3, vI q2.1]) (st' := []) (g' := q2.2) k63_32 rfl rfl ?_
      refine q_ldR_n (pc' := 34) k63_33 rfl rfl (by have := (k2 ht0 (by decide)); omega) ?_
      refine q_s (pc' := 35) (ls' := [vR t0, vR 116, vI (q2.2 (q2.2 t0 5) q2.1), vI l3, vI q2.1]) (st' := [vI 2, vR t0]) (g' := q2.2) k63_34 rfl rfl ?_
      refine q_s (pc' := 36) (ls' := [vR t0, vR 116, vI (q2.2 (q2.2 t0 5) q2.1), vI l3, vI q2.1]) (st' := [vI (q2.2 (q2.2 t0 5) q2.1), vI 2, vR t0]) (g' := q2.2) k63_35 rfl rfl ?_
      refine q_s (pc' := 37) (ls' := [vR t0, vR 116, vI (q2.2 (q2.2 t0 5) q2.1), vI l3, vI q2.1]) (st' := [vR 116, vI (q2.2 (q2.2 t0 5) q2.1), vI 2, vR t0]) (g' := q2.2) k63_36 rfl rfl ?_
      refine q_getM (w := 1) (c := 20) (pc' := 40) rfl k63_37 rfl rfl rfl rfl rfl (fun h6 => ?_)
      refine q_s (pc' := 42) (ls' := [vR t0, vR 116, vI (q2.2 (q2.2 t0 5) q2.1), vI l3, vI q2.1]) (st' := [vI q2.1, vR (q2.2 116 1), vI (q2.2 (q2.2 t0 5) q2.1), vI 2, vR t0]) (g' := q2.2) k63_40 rfl rfl ?_
      refine q_iald (n := aln (SH L) (q2.2 116 1)) (pc' := 43) rfl k63_42 rfl rfl (fun h7 => ?_)
      refine q_callV (ls0 := [vR t0, vI 2, vI (q2.2 (q2.2 t0 5) q2.1), vI (q2.2 (q2.2 116 1) q2.1)]) (rest := []) (pc' := 46) rfl k63_43 rfl (hy4 rfl rfl (rcv0 rfl ht0) rfl) rfl rfl hq_50 rfl (fun q8 => ?_)
      refine q_s (pc' := 49) (ls' := [vR t0, vR 116, vI (q2.2 (q2.2 t0 5) q2.1), vI (iw (l3 + 1)), vI q2.1]) (st' := []) (g' := q8) k63_46 rfl rfl ?_
      refine q_s (pc' := 4) (ls' := [vR t0, vR 116, vI (q2.2 (q2.2 t0 5) q2.1), vI (iw (l3 + 1)), vI q2.1]) (st' := []) (g' := q8) k63_49 rfl rfl ?_
      rfl
set_option maxHeartbeats 4000000 in
theorem jPl_make_eq (L : Nat) (t0 : Int) (a2 : Int) (g : AMem) (ht0 : kin (SH L) t0 = 6) : jPl_make L t0 a2 g = (jPl_openAll L t0 (up (up g t0 3 0) t0 4 a2)).bind (fun q1 => jPl_make_17 L t0 a2 0 vU q1) := by
  unfold jPl_make
  refine q_ldR_n (pc' := 1) k64_0 rfl rfl (by have := (k2 ht0 (by decide)); omega) ?_
  refine q_s (pc' := 2) (ls' := [vR t0, vR 116, vI a2, vU, vU]) (st' := [vI 0, vR t0]) (g' := g) k64_1 rfl rfl ?_
  refine q_putI (w := 3) (pc' := 5) k64_2 ht0 rfl rfl rfl ?_
  refine q_ldR_n (pc' := 6) k64_5 rfl rfl (by have := (k2 ht0 (by decide)); omega) ?_
  refine q_s (pc' := 7) (ls' := [vR t0, vR 116, vI a2, vU, vU]) (st' := [vI a2, vR t0]) (g' := up g t0 3 0) k64_6 rfl rfl ?_
  refine q_putI (w := 4) (pc' := 10) k64_7 ht0 rfl rfl rfl ?_
  refine q_ldR_n (pc' := 11) k64_10 rfl rfl (by have := (k2 ht0 (by decide)); omega) ?_
  refine q_s (pc' := 12) (ls' := [vR t0, vR 116, vI a2, vU, vU]) (st' := [vR 116, vR t0]) (g' := up (up g t0 3 0) t0 4 a2) k64_11 rfl rfl ?_
  refine q_callV (ls0 := [vR t0, vR 116, vU]) (rest := []) (pc' := 15) rfl k64_12 rfl (hy4 rfl rfl (rcv0 rfl ht0) rfl) rfl rfl hq_47 rfl (fun q1 => ?_)
  refine q_s (pc' := 16) (ls' := [vR t0, vR 116, vI a2, vU, vU]) (st' := [vI 0]) (g' := q1) k64_15 rfl rfl ?_
  refine q_s (pc' := 17) (ls' := [vR t0, vR 116, vI a2, vI 0, vU]) (st' := []) (g' := q1) k64_16 rfl rfl ?_
  rfl
set_option maxHeartbeats 4000000 in
theorem jPl_make_17_eq (L : Nat) (t0 : Int) (l2 : Int) (l3 : Int) (w4 : AVal) (g : AMem) (ht0 : kin (SH L) t0 = 6) : jPl_make_17 L t0 l2 l3 w4 g = if 9 ≤ l3 then ((jPl_addSettings L t0 g).bind (fun q3 => some q3)) else (if g t0 9 ≤ 0 then ((jPl_addSettings L t0 g).bind (fun q5 => some q5)) else ((jPl_leastOpen L t0 1 g).bind (fun q6 => if q6.1 < 0 then ((jPl_leastOpen L t0 0 q6.2).bind (fun q8 => (jPl_breakRing L t0 q8.1 q8.2).bind (fun q9 => jPl_make_17 L t0 l2 (iw (l3 + 1)) (vI q6.1) q9))) else ((jPl_moveTo L t0 q6.1 q6.2).bind (fun q10 => jPl_make_17 L t0 l2 (iw (l3 + 1)) (vI q6.1) q10))))) := by
  unfold jPl_make_17
  refine q_s (pc' := 18) (ls' := [vR t0, vR 116, vI l2, vI l3, w4]) (st' := [vI l3]) (g' := g) k64_17 rfl rfl ?_
  refine q_s (pc' := 20) (ls' := [vR t0, vR 116, vI l2, vI l3, w4]) (st' := [vI 9, vI l3]) (g' := g) k64_18 rfl rfl ?_
  refine q_ic (P := 9 ≤ l3) (t := 66) (pc' := 23) k64_20 Iff.rfl rfl rfl (fun h2 => ?_) (fun h2 => ?_)
  · refine q_ldR_n (pc' := 67) k64_66 rfl rfl (by have := (k2 ht0 (by decide)); omega) ?_
    refine q_s (pc' := 68) (ls' := [vR t0, vR 116, vI l2, vI l3, w4]) (st' := [vR 116, vR t0]) (g' := g) k64_67 rfl rfl ?_
    refine q_callV (ls0 := [vR t0, vR 116, vU, vU, vU]) (rest := []) (pc' := 71) rfl k64_68 rfl (hy4 rfl rfl (rcv0 rfl ht0) rfl) rfl rfl hq_63 rfl (fun q3 => ?_)
    exact q_e k64_71 rfl rfl rfl
  · refine q_ldR_n (pc' := 24) k64_23 rfl rfl (by have := (k2 ht0 (by decide)); omega) ?_
    refine q_getI (w := 9) (pc' := 27) k64_24 ht0 rfl rfl rfl ?_
    refine q_if (P := g t0 9 ≤ 0) (t := 66) (pc' := 30) k64_27 Iff.rfl rfl rfl (fun h4 => ?_) (fun h4 => ?_)
    · refine q_ldR_n (pc' := 67) k64_66 rfl rfl (by have := (k2 ht0 (by decide)); omega) ?_
      refine q_s (pc' := 68) (ls' := [vR t0, vR 116, vI l2, vI l3, w4]) (st' := [vR 116, vR t0]) (g' := g) k64_67 rfl rfl ?_
      refine q_callV (ls0 := [vR t0, vR 116, vU, vU, vU]) (rest := []) (pc' := 71) rfl k64_68 rfl (hy4 rfl rfl (rcv0 rfl ht0) rfl) rfl rfl hq_63 rfl (fun q5 => ?_)
      exact q_e k64_71 rfl rfl rfl
    · refine q_ldR_n (pc' := 31) k64_30 rfl rfl (by have := (k2 ht0 (by decide)); omega) ?_
      refine q_s (pc' := 32) (ls' := [vR t0, vR 116, vI l2, vI l3, w4]) (st' := [vI 1, vR t0]) (g' := g) k64_31 rfl rfl ?_
      refine q_callI (ls0 := [vR t0, vI 1, vU, vU, vU]) (rest := []) (pc' := 35) rfl k64_32 rfl (hy4 rfl rfl (rcv0 rfl ht0) rfl) rfl rfl hq_49 rfl (fun q6 => ?_)
      refine q_s (pc' := 37) (ls' := [vR t0, vR 116, vI l2, vI l3, vI q6.1]) (st' := []) (g' := q6.2) k64_35 rfl rfl ?_
      refine q_s (pc' := 39) (ls' := [vR t0, vR 116, vI l2, vI l3, vI q6.1]) (st' := [vI q6.1]) (g' := q6.2) k64_37 rfl rfl ?_
      refine q_if (P := q6.1 < 0) (t := 51) (pc' := 42) k64_39 Iff.rfl rfl rfl (fun h7 => ?_) (fun h7 => ?_)
      · refine q_ldR_n (pc' := 52) k64_51 rfl rfl (by have := (k2 ht0 (by decide)); omega) ?_
        refine q_ldR_n (pc' := 53) k64_52 rfl rfl (by have := (k2 ht0 (by decide)); omega) ?_
        refine q_s (pc' := 54) (ls' := [vR t0, vR 116, vI l2, vI l3, vI q6.1]) (st' := [vI 0, vR t0, vR t0]) (g' := q6.2) k64_53 rfl rfl ?_
        refine q_callI (ls0 := [vR t0, vI 0, vU, vU, vU]) (rest := [vR t0]) (pc' := 57) rfl k64_54 rfl (hy4 rfl rfl (rcv0 rfl ht0) rfl) rfl rfl hq_49 rfl (fun q8 => ?_)
        refine q_callV (ls0 := [vR t0, vI q8.1, vU, vU, vU]) (rest := []) (pc' := 60) rfl k64_57 rfl (hy4 rfl rfl (rcv0 rfl ht0) rfl) rfl rfl hq_61 rfl (fun q9 => ?_)
        refine q_s (pc' := 63) (ls' := [vR t0, vR 116, vI l2, vI (iw (l3 + 1)), vI q6.1]) (st' := []) (g' := q9) k64_60 rfl rfl ?_
        refine q_s (pc' := 17) (ls' := [vR t0, vR 116, vI l2, vI (iw (l3 + 1)), vI q6.1]) (st' := []) (g' := q9) k64_63 rfl rfl ?_
        rfl
      · refine q_ldR_n (pc' := 43) k64_42 rfl rfl (by have := (k2 ht0 (by decide)); omega) ?_
        refine q_s (pc' := 45) (ls' := [vR t0, vR 116, vI l2, vI l3, vI q6.1]) (st' := [vI q6.1, vR t0]) (g' := q6.2) k64_43 rfl rfl ?_
        refine q_callV (ls0 := [vR t0, vI q6.1, vU]) (rest := []) (pc' := 48) rfl k64_45 rfl (hy4 rfl rfl (rcv0 rfl ht0) rfl) rfl rfl hq_53 rfl (fun q10 => ?_)
        refine q_s (pc' := 60) (ls' := [vR t0, vR 116, vI l2, vI l3, vI q6.1]) (st' := []) (g' := q10) k64_48 rfl rfl ?_
        refine q_s (pc' := 63) (ls' := [vR t0, vR 116, vI l2, vI (iw (l3 + 1)), vI q6.1]) (st' := []) (g' := q10) k64_60 rfl rfl ?_
        refine q_s (pc' := 17) (ls' := [vR t0, vR 116, vI l2, vI (iw (l3 + 1)), vI q6.1]) (st' := []) (g' := q10) k64_63 rfl rfl ?_
        rfl
set_option maxHeartbeats 4000000 in
theorem jPl_countSort_eq (L : Nat) (t0 : Int) (a1 : Int) (g : AMem) (ht0 : kin (SH L) t0 = 6) : jPl_countSort L t0 a1 g = jPl_countSort_4 L t0 a1 0 0 g := by
  unfold jPl_countSort
  refine q_s (pc' := 1) (ls' := [vR t0, vI a1, vU, vU]) (st' := [vI 0]) (g' := g) k65_0 rfl rfl ?_
  refine q_s (pc' := 2) (ls' := [vR t0, vI a1, vI 0, vU]) (st' := []) (g' := g) k65_1 rfl rfl ?_
  refine q_s (pc' := 3) (ls' := [vR t0, vI a1, vI 0, vU]) (st' := [vI 0]) (g' := g) k65_2 rfl rfl ?_
  refine q_s (pc' := 4) (ls' := [vR t0, vI a1, vI 0, vI 0]) (st' := []) (g' := g) k65_3 rfl rfl ?_
  rfl
set_option maxHeartbeats 4000000 in
theorem jPl_countSort_4_eq (L : Nat) (t0 : Int) (l1 : Int) (l2 : Int) (l3 : Int) (g : AMem) (ht0 : kin (SH L) t0 = 6) : jPl_countSort_4 L t0 l1 l2 l3 g = if g t0 3 ≤ l3 then (some (l2, g)) else (if 0 ≤ l3 ∧ l3 < 9 then (if g (t0 + 1) l3 ≠ l1 then (jPl_countSort_4 L t0 l1 (iw (l2 + 0)) (iw (l3 + 1)) g) else (jPl_countSort_4 L t0 l1 (iw (l2 + 1)) (iw (l3 + 1)) g)) else none) := by
  unfold jPl_countSort_4
  refine q_s (pc' := 5) (ls' := [vR t0, vI l1, vI l2, vI l3]) (st' := [vI l3]) (g' := g) k65_4 rfl rfl ?_
  refine q_ldR_n (pc' := 6) k65_5 rfl rfl (by have := (k2 ht0 (by decide)); omega) ?_
  refine q_getI (w := 3) (pc' := 9) k65_6 ht0 rfl rfl rfl ?_
  refine q_ic (P := g t0 3 ≤ l3) (t := 36) (pc' := 12) k65_9 Iff.rfl rfl rfl (fun h1 => ?_) (fun h1 => ?_)
  · refine q_s (pc' := 37) (ls' := [vR t0, vI l1, vI l2, vI l3]) (st' := [vI l2]) (g' := g) k65_36 rfl rfl ?_
    exact q_e k65_37 rfl rfl rfl
  · refine q_s (pc' := 13) (ls' := [vR t0, vI l1, vI l2, vI l3]) (st' := [vI l2]) (g' := g) k65_12 rfl rfl ?_
    refine q_ldR_n (pc' := 14) k65_13 rfl rfl (by have := (k2 ht0 (by decide)); omega) ?_
    refine q_getF (r := t0 + 1) (pc' := 17) k65_14 ht0 rfl (kP_f ht0).1 rfl ?_
    refine q_s (pc' := 18) (ls' := [vR t0, vI l1, vI l2, vI l3]) (st' := [vI l3, vR (t0 + 1), vI l2]) (g' := g) k65_17 rfl rfl ?_
    refine q_iald (n := 9) (pc' := 19) rfl k65_18 (kP_f ht0).2.2.2.2.2.1 rfl (fun h2 => ?_)
    refine q_s (pc' := 20) (ls' := [vR t0, vI l1, vI l2, vI l3]) (st' := [vI l1, vI (g (t0 + 1) l3), vI l2]) (g' := g) k65_19 rfl rfl ?_
    refine q_ic (P := g (t0 + 1) l3 ≠ l1) (t := 27) (pc' := 23) k65_20 Iff.rfl rfl rfl (fun h3 => ?_) (fun h3 => ?_)
    · refine q_s (pc' := 28) (ls' := [vR t0, vI l1, vI l2, vI l3]) (st' := [vI 0, vI l2]) (g' := g) k65_27 rfl rfl ?_
      refine q_s (pc' := 29) (ls' := [vR t0, vI l1, vI l2, vI l3]) (st' := [vI (iw (l2 + 0))]) (g' := g) k65_28 rfl rfl ?_
      refine q_s (pc' := 30) (ls' := [vR t0, vI l1, vI (iw (l2 + 0)), vI l3]) (st' := []) (g' := g) k65_29 rfl rfl ?_
      refine q_s (pc' := 33) (ls' := [vR t0, vI l1, vI (iw (l2 + 0)), vI (iw (l3 + 1))]) (st' := []) (g' := g) k65_30 rfl rfl ?_
      refine q_s (pc' := 4) (ls' := [vR t0, vI l1, vI (iw (l2 + 0)), vI (iw (l3 + 1))]) (st' := []) (g' := g) k65_33 rfl rfl ?_
      rfl
    · refine q_s (pc' := 24) (ls' := [vR t0, vI l1, vI l2, vI l3]) (st' := [vI 1, vI l2]) (g' := g) k65_23 rfl rfl ?_
      refine q_s (pc' := 28) (ls' := [vR t0, vI l1, vI l2, vI l3]) (st' := [vI 1, vI l2]) (g' := g) k65_24 rfl rfl ?_
      refine q_s (pc' := 29) (ls' := [vR t0, vI l1, vI l2, vI l3]) (st' := [vI (iw (l2 + 1))]) (g' := g) k65_28 rfl rfl ?_
      refine q_s (pc' := 30) (ls' := [vR t0, vI l1, vI (iw (l2 + 1)), vI l3]) (st' := []) (g' := g) k65_29 rfl rfl ?_
      refine q_s (pc' := 33) (ls' := [vR t0, vI l1, vI (iw (l2 + 1)), vI (iw (l3 + 1))]) (st' := []) (g' := g) k65_30 rfl rfl ?_
      refine q_s (pc' := 4) (ls' := [vR t0, vI l1, vI (iw (l2 + 1)), vI (iw (l3 + 1))]) (st' := []) (g' := g) k65_33 rfl rfl ?_
      rfl
set_option maxHeartbeats 4000000 in
theorem jPl_countToSpare_eq (L : Nat) (t0 : Int) (g : AMem) (ht0 : kin (SH L) t0 = 6) : jPl_countToSpare L t0 g = jPl_countToSpare_4 L t0 0 0 g := by
  unfold jPl_countToSpare
  refine q_s (pc' := 1) (ls' := [vR t0, vU, vU]) (st' := [vI 0]) (g' := g) k66_0 rfl rfl ?_
  refine q_s (pc' := 2) (ls' := [vR t0, vI 0, vU]) (st' := []) (g' := g) k66_1 rfl rfl ?_
  refine q_s (pc' := 3) (ls' := [vR t0, vI 0, vU]) (st' := [vI 0]) (g' := g) k66_2 rfl rfl ?_
  refine q_s (pc' := 4) (ls' := [vR t0, vI 0, vI 0]) (st' := []) (g' := g) k66_3 rfl rfl ?_
  rfl
set_option maxHeartbeats 4000000 in
theorem jPl_countToSpare_4_eq (L : Nat) (t0 : Int) (l1 : Int) (l2 : Int) (g : AMem) (ht0 : kin (SH L) t0 = 6) : jPl_countToSpare_4 L t0 l1 l2 g = if g t0 3 ≤ l2 then (some (l1, g)) else (if 0 ≤ l2 ∧ l2 < 9 then ((jRg_firstByte L (g (t0 + 2) l2) g).bind (fun q3 => if q3.1 ≠ 32 then (jPl_countToSpare_4 L t0 (iw (l1 + 0)) (iw (l2 + 1)) q3.2) else (jPl_countToSpare_4 L t0 (iw (l1 + 1)) (iw (l2 + 1)) q3.2))) else none) := by
  unfold jPl_countToSpare_4
  refine q_s (pc' := 5) (ls' := [vR t0, vI l1, vI l2]) (st' := [vI l2]) (g' := g) k66_4 rfl rfl ?_
  refine q_ldR_n (pc' := 6) k66_5 rfl rfl (by have := (k2 ht0 (by decide)); omega) ?_
  refine q_getI (w := 3) (pc' := 9) k66_6 ht0 rfl rfl rfl ?_
  refine q_ic (P := g t0 3 ≤ l2) (t := 40) (pc' := 12) k66_9 Iff.rfl rfl rfl (fun h1 => ?_) (fun h1 => ?_)
  · refine q_s (pc' := 41) (ls' := [vR t0, vI l1, vI l2]) (st' := [vI l1]) (g' := g) k66_40 rfl rfl ?_
    exact q_e k66_41 rfl rfl rfl
  · refine q_s (pc' := 13) (ls' := [vR t0, vI l1, vI l2]) (st' := [vI l1]) (g' := g) k66_12 rfl rfl ?_
    refine q_ldR_n (pc' := 14) k66_13 rfl rfl (by have := (k2 ht0 (by decide)); omega) ?_
    refine q_getF (r := t0 + 2) (pc' := 17) k66_14 ht0 rfl (kP_f ht0).2.1 rfl ?_
    refine q_s (pc' := 18) (ls' := [vR t0, vI l1, vI l2]) (st' := [vI l2, vR (t0 + 2), vI l1]) (g' := g) k66_17 rfl rfl ?_
    refine q_iald (n := 9) (pc' := 19) rfl k66_18 (kP_f ht0).2.2.2.2.2.2.1 rfl (fun h2 => ?_)
    refine q_callI (ls0 := [vI (g (t0 + 2) l2)]) (rest := [vI l1]) (pc' := 22) rfl k66_19 rfl (hy4 rfl rfl rfl rfl) rfl rfl hq_1 rfl (fun q3 => ?_)
    refine q_s (pc' := 24) (ls' := [vR t0, vI l1, vI l2]) (st' := [vI 32, vI q3.1, vI l1]) (g' := q3.2) k66_22 rfl rfl ?_
    refine q_ic (P := q3.1 ≠ 32) (t := 31) (pc' := 27) k66_24 Iff.rfl rfl rfl (fun h4 => ?_) (fun h4 => ?_)
    · refine q_s (pc' := 32) (ls' := [vR t0, vI l1, vI l2]) (st' := [vI 0, vI l1]) (g' := q3.2) k66_31 rfl rfl ?_
      refine q_s (pc' := 33) (ls' := [vR t0, vI l1, vI l2]) (st' := [vI (iw (l1 + 0))]) (g' := q3.2) k66_32 rfl rfl ?_
      refine q_s (pc' := 34) (ls' := [vR t0, vI (iw (l1 + 0)), vI l2]) (st' := []) (g' := q3.2) k66_33 rfl rfl ?_
      refine q_s (pc' := 37) (ls' := [vR t0, vI (iw (l1 + 0)), vI (iw (l2 + 1))]) (st' := []) (g' := q3.2) k66_34 rfl rfl ?_
      refine q_s (pc' := 4) (ls' := [vR t0, vI (iw (l1 + 0)), vI (iw (l2 + 1))]) (st' := []) (g' := q3.2) k66_37 rfl rfl ?_
      rfl
    · refine q_s (pc' := 28) (ls' := [vR t0, vI l1, vI l2]) (st' := [vI 1, vI l1]) (g' := q3.2) k66_27 rfl rfl ?_
      refine q_s (pc' := 32) (ls' := [vR t0, vI l1, vI l2]) (st' := [vI 1, vI l1]) (g' := q3.2) k66_28 rfl rfl ?_
      refine q_s (pc' := 33) (ls' := [vR t0, vI l1, vI l2]) (st' := [vI (iw (l1 + 1))]) (g' := q3.2) k66_32 rfl rfl ?_
      refine q_s (pc' := 34) (ls' := [vR t0, vI (iw (l1 + 1)), vI l2]) (st' := []) (g' := q3.2) k66_33 rfl rfl ?_
      refine q_s (pc' := 37) (ls' := [vR t0, vI (iw (l1 + 1)), vI (iw (l2 + 1))]) (st' := []) (g' := q3.2) k66_34 rfl rfl ?_
      refine q_s (pc' := 4) (ls' := [vR t0, vI (iw (l1 + 1)), vI (iw (l2 + 1))]) (st' := []) (g' := q3.2) k66_37 rfl rfl ?_
      rfl
set_option maxHeartbeats 4000000 in
theorem jPl_price_eq (L : Nat) (t0 : Int) (g : AMem) (ht0 : kin (SH L) t0 = 6) : jPl_price L t0 g = jPl_price_4 L t0 0 0 vU g := by
  unfold jPl_price
  refine q_s (pc' := 1) (ls' := [vR t0, vU, vU, vU]) (st' := [vI 0]) (g' := g) k67_0 rfl rfl ?_
  refine q_s (pc' := 2) (ls' := [vR t0, vI 0, vU, vU]) (st' := []) (g' := g) k67_1 rfl rfl ?_
  refine q_s (pc' := 3) (ls' := [vR t0, vI 0, vU, vU]) (st' := [vI 0]) (g' := g) k67_2 rfl rfl ?_
  refine q_s (pc' := 4) (ls' := [vR t0, vI 0, vI 0, vU]) (st' := []) (g' := g) k67_3 rfl rfl ?_
  rfl
set_option maxHeartbeats 4000000 in
theorem jPl_price_4_eq (L : Nat) (t0 : Int) (l1 : Int) (l2 : Int) (w3 : AVal) (g : AMem) (ht0 : kin (SH L) t0 = 6) : jPl_price_4 L t0 l1 l2 w3 g = if g t0 3 ≤ l2 then (some (l1, g)) else (if 0 ≤ l2 ∧ l2 < 9 then ((jRg_width L (g (t0 + 2) l2) g).bind (fun q3 => if 0 ≤ l2 ∧ l2 < 9 then (if q3.2 (t0 + 1) l2 ≠ 1 then ((jPr_move L (q3.2 t0 4) q3.1 q3.2).bind (fun q6 => jPl_price_4 L t0 (iw (l1 + q6.1)) (iw (l2 + 1)) (vI q3.1) q6.2)) else ((jPr_change L (q3.2 t0 4) q3.1 q3.2).bind (fun q7 => jPl_price_4 L t0 (iw (l1 + q7.1)) (iw (l2 + 1)) (vI q3.1) q7.2))) else none)) else none) := by
  unfold jPl_price_4
  refine q_s (pc' := 5) (ls' := [vR t0, vI l1, vI l2, w3]) (st' := [vI l2]) (g' := g) k67_4 rfl rfl ?_
  refine q_ldR_n (pc' := 6) k67_5 rfl rfl (by have := (k2 ht0 (by decide)); omega) ?_
  refine q_getI (w := 3) (pc' := 9) k67_6 ht0 rfl rfl rfl ?_
  refine q_ic (P := g t0 3 ≤ l2) (t := 60) (pc' := 12) k67_9 Iff.rfl rfl rfl (fun h1 => ?_) (fun h1 => ?_)
  · refine q_s (pc' := 61) (ls' := [vR t0, vI l1, vI l2, w3]) (st' := [vI l1]) (g' := g) k67_60 rfl rfl ?_
    exact q_e k67_61 rfl rfl rfl
  · refine q_ldR_n (pc' := 13) k67_12 rfl rfl (by have := (k2 ht0 (by decide)); omega) ?_
    refine q_getF (r := t0 + 2) (pc' := 16) k67_13 ht0 rfl (kP_f ht0).2.1 rfl ?_
    refine q_s (pc' := 17) (ls' := [vR t0, vI l1, vI l2, w3]) (st' := [vI l2, vR (t0 + 2)]) (g' := g) k67_16 rfl rfl ?_
    refine q_iald (n := 9) (pc' := 18) rfl k67_17 (kP_f ht0).2.2.2.2.2.2.1 rfl (fun h2 => ?_)
    refine q_callI (ls0 := [vI (g (t0 + 2) l2)]) (rest := []) (pc' := 21) rfl k67_18 rfl (hy4 rfl rfl rfl rfl) rfl rfl hq_2 rfl (fun q3 => ?_)
    refine q_s (pc' := 22) (ls' := [vR t0, vI l1, vI l2, vI q3.1]) (st' := []) (g' := q3.2) k67_21 rfl rfl ?_
    refine q_s (pc' := 23) (ls' := [vR t0, vI l1, vI l2, vI q3.1]) (st' := [vI l1]) (g' := q3.2) k67_22 rfl rfl ?_
    refine q_ldR_n (pc' := 24) k67_23 rfl rfl (by have := (k2 ht0 (by decide)); omega) ?_
    refine q_getF (r := t0 + 1) (pc' := 27) k67_24 ht0 rfl (kP_f ht0).1 rfl ?_
    refine q_s (pc' := 28) (ls' := [vR t0, vI l1, vI l2, vI q3.1]) (st' := [vI l2, vR (t0 + 1), vI l1]) (g' := q3.2) k67_27 rfl rfl ?_
    refine q_iald (n := 9) (pc' := 29) rfl k67_28 (kP_f ht0).2.2.2.2.2.1 rfl (fun h4 => ?_)
    refine q_s (pc' := 30) (ls' := [vR t0, vI l1, vI l2, vI q3.1]) (st' := [vI 1, vI (q3.2 (t0 + 1) l2), vI l1]) (g' := q3.2) k67_29 rfl rfl ?_
    refine q_ic (P := q3.2 (t0 + 1) l2 ≠ 1) (t := 44) (pc' := 33) k67_30 Iff.rfl rfl rfl (fun h5 => ?_) (fun h5 => ?_)
    · refine q_ldR_n (pc' := 45) k67_44 rfl rfl (by have := (k2 ht0 (by decide)); omega) ?_
      refine q_getI (w := 4) (pc' := 48) k67_45 ht0 rfl rfl rfl ?_
      refine q_s (pc' := 49) (ls' := [vR t0, vI l1, vI l2, vI q3.1]) (st' := [vI q3.1, vI (q3.2 t0 4), vI l1]) (g' := q3.2) k67_48 rfl rfl ?_
      refine q_callI (ls0 := [vI (q3.2 t0 4), vI q3.1]) (rest := [vI l1]) (pc' := 52) rfl k67_49 rfl (hy4 rfl rfl rfl rfl) rfl rfl hq_57 rfl (fun q6 => ?_)
      refine q_s (pc' := 53) (ls' := [vR t0, vI l1, vI l2, vI q3.1]) (st' := [vI (iw (l1 + q6.1))]) (g' := q6.2) k67_52 rfl rfl ?_
      refine q_s (pc' := 54) (ls' := [vR t0, vI (iw (l1 + q6.1)), vI l2, vI q3.1]) (st' := []) (g' := q6.2) k67_53 rfl rfl ?_
      refine q_s (pc' := 57) (ls' := [vR t0, vI (iw (l1 + q6.1)), vI (iw (l2 + 1)), vI q3.1]) (st' := []) (g' := q6.2) k67_54 rfl rfl ?_
      refine q_s (pc' := 4) (ls' := [vR t0, vI (iw (l1 + q6.1)), vI (iw (l2 + 1)), vI q3.1]) (st' := []) (g' := q6.2) k67_57 rfl rfl ?_
      rfl
    · refine q_ldR_n (pc' := 34) k67_33 rfl rfl (by have := (k2 ht0 (by decide)); omega) ?_
      refine q_getI (w := 4) (pc' := 37) k67_34 ht0 rfl rfl rfl ?_
      refine q_s (pc' := 38) (ls' := [vR t0, vI l1, vI l2, vI q3.1]) (st' := [vI q3.1, vI (q3.2 t0 4), vI l1]) (g' := q3.2) k67_37 rfl rfl ?_
      refine q_callI (ls0 := [vI (q3.2 t0 4), vI q3.1]) (rest := [vI l1]) (pc' := 41) rfl k67_38 rfl (hy4 rfl rfl rfl rfl) rfl rfl hq_56 rfl (fun q7 => ?_)
      refine q_s (pc' := 52) (ls' := [vR t0, vI l1, vI l2, vI q3.1]) (st' := [vI q7.1, vI l1]) (g' := q7.2) k67_41 rfl rfl ?_
      refine q_s (pc' := 53) (ls' := [vR t0, vI l1, vI l2, vI q3.1]) (st' := [vI (iw (l1 + q7.1))]) (g' := q7.2) k67_52 rfl rfl ?_
      refine q_s (pc' := 54) (ls' := [vR t0, vI (iw (l1 + q7.1)), vI l2, vI q3.1]) (st' := []) (g' := q7.2) k67_53 rfl rfl ?_
      refine q_s (pc' := 57) (ls' := [vR t0, vI (iw (l1 + q7.1)), vI (iw (l2 + 1)), vI q3.1]) (st' := []) (g' := q7.2) k67_54 rfl rfl ?_
      refine q_s (pc' := 4) (ls' := [vR t0, vI (iw (l1 + q7.1)), vI (iw (l2 + 1)), vI q3.1]) (st' := []) (g' := q7.2) k67_57 rfl rfl ?_
      rfl
set_option maxHeartbeats 4000000 in
theorem jPl_isSame_eq (L : Nat) (t0 : Int) (a1 : Int) (t2 : Int) (a3 : Int) (g : AMem) (ht0 : kin (SH L) t0 = 6) (ht2 : kin (SH L) t2 = 6) : jPl_isSame L t0 a1 t2 a3 g = if 0 ≤ a1 ∧ a1 < 9 then (if 0 ≤ a3 ∧ a3 < 9 then (if g (t0 + 1) a1 ≠ g (t2 + 1) a3 then (some (0, g)) else (if 0 ≤ a1 ∧ a1 < 9 then (if 0 ≤ a3 ∧ a3 < 9 then (if g (t0 + 2) a1 ≠ g (t2 + 2) a3 then (some (0, g)) else (if 0 ≤ a1 ∧ a1 < 9 then (if 0 ≤ a3 ∧ a3 < 9 then (if g (t0 + 3) a1 ≠ g (t2 + 3) a3 then (some (0, g)) else (some (1, g))) else none) else none)) else none) else none)) else none) else none := by
  unfold jPl_isSame
  refine q_ldR_n (pc' := 1) k68_0 rfl rfl (by have := (k2 ht0 (by decide)); omega) ?_
  refine q_getF (r := t0 + 1) (pc' := 4) k68_1 ht0 rfl (kP_f ht0).1 rfl ?_
  refine q_s (pc' := 5) (ls' := [vR t0, vI a1, vR t2, vI a3]) (st' := [vI a1, vR (t0 + 1)]) (g' := g) k68_4 rfl rfl ?_
  refine q_iald (n := 9) (pc' := 6) rfl k68_5 (kP_f ht0).2.2.2.2.2.1 rfl (fun h1 => ?_)
  refine q_ldR_n (pc' := 7) k68_6 rfl rfl (by have := (k2 ht2 (by decide)); omega) ?_
  refine q_getF (r := t2 + 1) (pc' := 10) k68_7 ht2 rfl (kP_f ht2).1 rfl ?_
  refine q_s (pc' := 11) (ls' := [vR t0, vI a1, vR t2, vI a3]) (st' := [vI a3, vR (t2 + 1), vI (g (t0 + 1) a1)]) (g' := g) k68_10 rfl rfl ?_
  refine q_iald (n := 9) (pc' := 12) rfl k68_11 (kP_f ht2).2.2.2.2.2.1 rfl (fun h2 => ?_)
  refine q_ic (P := g (t0 + 1) a1 ≠ g (t2 + 1) a3) (t := 49) (pc' := 15) k68_12 Iff.rfl rfl rfl (fun h3 => ?_) (fun h3 => ?_)
  · refine q_s (pc' := 50) (ls' := [vR t0, vI a1, vR t2, vI a3]) (st' := [vI 0]) (g' := g) k68_49 rfl rfl ?_
    exact q_e k68_50 rfl rfl rfl
  · refine q_ldR_n (pc' := 16) k68_15 rfl rfl (by have := (k2 ht0 (by decide)); omega) ?_
    refine q_getF (r := t0 + 2) (pc' := 19) k68_16 ht0 rfl (kP_f ht0).2.1 rfl ?_
    refine q_s (pc' := 20) (ls' := [vR t0, vI a1, vR t2, vI a3]) (st' := [vI a1, vR (t0 + 2)]) (g' := g) k68_19 rfl rfl ?_
    refine q_iald (n := 9) (pc' := 21) rfl k68_20 (kP_f ht0).2.2.2.2.2.2.1 rfl (fun h4 => ?_)
    refine q_ldR_n (pc' := 22) k68_21 rfl rfl (by have := (k2 ht2 (by decide)); omega) ?_
    refine q_getF (r := t2 + 2) (pc' := 25) k68_22 ht2 rfl (kP_f ht2).2.1 rfl ?_
    refine q_s (pc' := 26) (ls' := [vR t0, vI a1, vR t2, vI a3]) (st' := [vI a3, vR (t2 + 2), vI (g (t0 + 2) a1)]) (g' := g) k68_25 rfl rfl ?_
    refine q_iald (n := 9) (pc' := 27) rfl k68_26 (kP_f ht2).2.2.2.2.2.2.1 rfl (fun h5 => ?_)
    refine q_ic (P := g (t0 + 2) a1 ≠ g (t2 + 2) a3) (t := 49) (pc' := 30) k68_27 Iff.rfl rfl rfl (fun h6 => ?_) (fun h6 => ?_)
    · refine q_s (pc' := 50) (ls' := [vR t0, vI a1, vR t2, vI a3]) (st' := [vI 0]) (g' := g) k68_49 rfl rfl ?_
      exact q_e k68_50 rfl rfl rfl
    · refine q_ldR_n (pc' := 31) k68_30 rfl rfl (by have := (k2 ht0 (by decide)); omega) ?_
      refine q_getF (r := t0 + 3) (pc' := 34) k68_31 ht0 rfl (kP_f ht0).2.2.1 rfl ?_
      refine q_s (pc' := 35) (ls' := [vR t0, vI a1, vR t2, vI a3]) (st' := [vI a1, vR (t0 + 3)]) (g' := g) k68_34 rfl rfl ?_
      refine q_iald (n := 9) (pc' := 36) rfl k68_35 (kP_f ht0).2.2.2.2.2.2.2.1 rfl (fun h7 => ?_)
      refine q_ldR_n (pc' := 37) k68_36 rfl rfl (by have := (k2 ht2 (by decide)); omega) ?_
      refine q_getF (r := t2 + 3) (pc' := 40) k68_37 ht2 rfl (kP_f ht2).2.2.1 rfl ?_
      refine q_s (pc' := 41) (ls' := [vR t0, vI a1, vR t2, vI a3]) (st' := [vI a3, vR (t2 + 3), vI (g (t0 + 3) a1)]) (g' := g) k68_40 rfl rfl ?_
      refine q_iald (n := 9) (pc' := 42) rfl k68_41 (kP_f ht2).2.2.2.2.2.2.2.1 rfl (fun h8 => ?_)
      refine q_ic (P := g (t0 + 3) a1 ≠ g (t2 + 3) a3) (t := 49) (pc' := 45) k68_42 Iff.rfl rfl rfl (fun h9 => ?_) (fun h9 => ?_)
      · refine q_s (pc' := 50) (ls' := [vR t0, vI a1, vR t2, vI a3]) (st' := [vI 0]) (g' := g) k68_49 rfl rfl ?_
        exact q_e k68_50 rfl rfl rfl
      · refine q_s (pc' := 46) (ls' := [vR t0, vI a1, vR t2, vI a3]) (st' := [vI 1]) (g' := g) k68_45 rfl rfl ?_
        refine q_s (pc' := 50) (ls' := [vR t0, vI a1, vR t2, vI a3]) (st' := [vI 1]) (g' := g) k68_46 rfl rfl ?_
        exact q_e k68_50 rfl rfl rfl
set_option maxHeartbeats 4000000 in
theorem jPl_countSameAtEnd_eq (L : Nat) (t0 : Int) (t1 : Int) (g : AMem) (ht0 : kin (SH L) t0 = 6) (ht1 : kin (SH L) t1 = 6) : jPl_countSameAtEnd L t0 t1 g = jPl_countSameAtEnd_2 L t0 t1 0 g := by
  unfold jPl_countSameAtEnd
  refine q_s (pc' := 1) (ls' := [vR t0, vR t1, vU]) (st' := [vI 0]) (g' := g) k69_0 rfl rfl ?_
  refine q_s (pc' := 2) (ls' := [vR t0, vR t1, vI 0]) (st' := []) (g' := g) k69_1 rfl rfl ?_
  rfl
set_option maxHeartbeats 4000000 in
theorem jPl_countSameAtEnd_2_eq (L : Nat) (t0 : Int) (t1 : Int) (l2 : Int) (g : AMem) (ht0 : kin (SH L) t0 = 6) (ht1 : kin (SH L) t1 = 6) : jPl_countSameAtEnd_2 L t0 t1 l2 g = if g t0 3 ≤ l2 then (some (l2, g)) else (if g t1 3 ≤ l2 then (some (l2, g)) else ((jPl_isSame L t0 (iw ((iw ((g t0 3) - 1)) - l2)) t1 (iw ((iw ((g t1 3) - 1)) - l2)) g).bind (fun q3 => if q3.1 = 0 then (some (l2, q3.2)) else (jPl_countSameAtEnd_2 L t0 t1 (iw (l2 + 1)) q3.2)))) := by
  unfold jPl_countSameAtEnd_2
  refine q_s (pc' := 3) (ls' := [vR t0, vR t1, vI l2]) (st' := [vI l2]) (g' := g) k69_2 rfl rfl ?_
  refine q_ldR_n (pc' := 4) k69_3 rfl rfl (by have := (k2 ht0 (by decide)); omega) ?_
  refine q_getI (w := 3) (pc' := 7) k69_4 ht0 rfl rfl rfl ?_
  refine q_ic (P := g t0 3 ≤ l2) (t := 48) (pc' := 10) k69_7 Iff.rfl rfl rfl (fun h1 => ?_) (fun h1 => ?_)
  · refine q_s (pc' := 49) (ls' := [vR t0, vR t1, vI l2]) (st' := [vI l2]) (g' := g) k69_48 rfl rfl ?_
    exact q_e k69_49 rfl rfl rfl
  · refine q_s (pc' := 11) (ls' := [vR t0, vR t1, vI l2]) (st' := [vI l2]) (g' := g) k69_10 rfl rfl ?_
    refine q_ldR_n (pc' := 12) k69_11 rfl rfl (by have := (k2 ht1 (by decide)); omega) ?_
    refine q_getI (w := 3) (pc' := 15) k69_12 ht1 rfl rfl rfl ?_
    refine q_ic (P := g t1 3 ≤ l2) (t := 48) (pc' := 18) k69_15 Iff.rfl rfl rfl (fun h2 => ?_) (fun h2 => ?_)
    · refine q_s (pc' := 49) (ls' := [vR t0, vR t1, vI l2]) (st' := [vI l2]) (g' := g) k69_48 rfl rfl ?_
      exact q_e k69_49 rfl rfl rfl
    · refine q_ldR_n (pc' := 19) k69_18 rfl rfl (by have := (k2 ht0 (by decide)); omega) ?_
      refine q_ldR_n (pc' := 20) k69_19 rfl rfl (by have := (k2 ht0 (by decide)); omega) ?_
      refine q_getI (w := 3) (pc' := 23) k69_20 ht0 rfl rfl rfl ?_
      refine q_s (pc' := 24) (ls' := [vR t0, vR t1, vI l2]) (st' := [vI 1, vI (g t0 3), vR t0]) (g' := g) k69_23 rfl rfl ?_
      refine q_s (pc' := 25) (ls' := [vR t0, vR t1, vI l2]) (st' := [vI (iw ((g t0 3) - 1)), vR t0]) (g' := g) k69_24 rfl rfl ?_
      refine q_s (pc' := 26) (ls' := [vR t0, vR t1, vI l2]) (st' := [vI l2, vI (iw ((g t0 3) - 1)), vR t0]) (g' := g) k69_25 rfl rfl ?_
      refine q_s (pc' := 27) (ls' := [vR t0, vR t1, vI l2]) (st' := [vI (iw ((iw ((g t0 3) - 1)) - l2)), vR t0]) (g' := g) k69_26 rfl rfl ?_
      refine q_ldR_n (pc' := 28) k69_27 rfl rfl (by have := (k2 ht1 (by decide)); omega) ?_
      refine q_ldR_n (pc' := 29) k69_28 rfl rfl (by have := (k2 ht1 (by decide)); omega) ?_
      refine q_getI (w := 3) (pc' := 32) k69_29 ht1 rfl rfl rfl ?_
      refine q_s (pc' := 33) (ls' := [vR t0, vR t1, vI l2]) (st' := [vI 1, vI (g t1 3), vR t1, vI (iw ((iw ((g t0 3) - 1)) - l2)), vR t0]) (g' := g) k69_32 rfl rfl ?_
      refine q_s (pc' := 34) (ls' := [vR t0, vR t1, vI l2]) (st' := [vI (iw ((g t1 3) - 1)), vR t1, vI (iw ((iw ((g t0 3) - 1)) - l2)), vR t0]) (g' := g) k69_33 rfl rfl ?_
      refine q_s (pc' := 35) (ls' := [vR t0, vR t1, vI l2]) (st' := [vI l2, vI (iw ((g t1 3) - 1)), vR t1, vI (iw ((iw ((g t0 3) - 1)) - l2)), vR t0]) (g' := g) k69_34 rfl rfl ?_
      refine q_s (pc' := 36) (ls' := [vR t0, vR t1, vI l2]) (st' := [vI (iw ((iw ((g t1 3) - 1)) - l2)), vR t1, vI (iw ((iw ((g t0 3) - 1)) - l2)), vR t0]) (g' := g) k69_35 rfl rfl ?_
      refine q_callI (ls0 := [vR t0, vI (iw ((iw ((g t0 3) - 1)) - l2)), vR t1, vI (iw ((iw ((g t1 3) - 1)) - l2))]) (rest := []) (pc' := 39) rfl k69_36 rfl (hy4 rfl rfl (rcv0 rfl ht0) rfl) rfl rfl hq_68 rfl (fun q3 => ?_)
      refine q_if (P := q3.1 = 0) (t := 48) (pc' := 42) k69_39 Iff.rfl rfl rfl (fun h4 => ?_) (fun h4 => ?_)
      · refine q_s (pc' := 49) (ls' := [vR t0, vR t1, vI l2]) (st' := [vI l2]) (g' := q3.2) k69_48 rfl rfl ?_
        exact q_e k69_49 rfl rfl rfl
      · refine q_s (pc' := 45) (ls' := [vR t0, vR t1, vI (iw (l2 + 1))]) (st' := []) (g' := q3.2) k69_42 rfl rfl ?_
        refine q_s (pc' := 2) (ls' := [vR t0, vR t1, vI (iw (l2 + 1))]) (st' := []) (g' := q3.2) k69_45 rfl rfl ?_
        rfl
set_option maxHeartbeats 4000000 in
theorem jTe_at_eq (L : Nat) (a1 : Int) (g : AMem) : jTe_at L a1 g = if a1 < 0 then (some ((-1), g)) else (if g 113 1 ≤ a1 then (some ((-1), g)) else (if 0 ≤ a1 ∧ a1 < 120 then (some (g 114 a1, g)) else none)) := by
  unfold jTe_at
  refine q_s (pc' := 1) (ls' := [vR 113, vI a1]) (st' := [vI a1]) (g' := g) k71_0 rfl rfl ?_
  refine q_if (P := a1 < 0) (t := 21) (pc' := 4) k71_1 Iff.rfl rfl rfl (fun h1 => ?_) (fun h1 => ?_)
  · refine q_s (pc' := 22) (ls' := [vR 113, vI a1]) (st' := [vI (-1)]) (g' := g) k71_21 rfl rfl ?_
    exact q_e k71_22 rfl rfl rfl
  · refine q_s (pc' := 5) (ls' := [vR 113, vI a1]) (st' := [vI a1]) (g' := g) k71_4 rfl rfl ?_
    refine q_s (pc' := 6) (ls' := [vR 113, vI a1]) (st' := [vR 113, vI a1]) (g' := g) k71_5 rfl rfl ?_
    refine q_getI (w := 1) (pc' := 9) k71_6 rfl rfl rfl rfl ?_
    refine q_ic (P := g 113 1 ≤ a1) (t := 21) (pc' := 12) k71_9 Iff.rfl rfl rfl (fun h2 => ?_) (fun h2 => ?_)
    · refine q_s (pc' := 22) (ls' := [vR 113, vI a1]) (st' := [vI (-1)]) (g' := g) k71_21 rfl rfl ?_
      exact q_e k71_22 rfl rfl rfl
    · refine q_s (pc' := 13) (ls' := [vR 113, vI a1]) (st' := [vR 113]) (g' := g) k71_12 rfl rfl ?_
      refine q_getF (r := 114) (pc' := 16) k71_13 rfl rfl rfl rfl ?_
      refine q_s (pc' := 17) (ls' := [vR 113, vI a1]) (st' := [vI a1, vR 114]) (g' := g) k71_16 rfl rfl ?_
      refine q_iald (n := 120) (pc' := 18) rfl k71_17 rfl rfl (fun h3 => ?_)
      refine q_s (pc' := 22) (ls' := [vR 113, vI a1]) (st' := [vI (g 114 a1)]) (g' := g) k71_18 rfl rfl ?_
      exact q_e k71_22 rfl rfl rfl
set_option maxHeartbeats 4000000 in
theorem jRe_nextByte_0_eq (L : Nat) (g : AMem) : jRe_nextByte_0 L g = if g 113 1 ≤ g 115 2 then ((jTe_at L (g 115 2) g).bind (fun q2 => some (q2.1, q2.2))) else ((jTe_at L (g 115 2) g).bind (fun q3 => if q3.1 ≠ 32 then ((jTe_at L (q3.2 115 2) q3.2).bind (fun q5 => some (q5.1, q5.2))) else (jRe_nextByte_0 L (up q3.2 115 2 (iw ((q3.2 115 2) + 1)))))) := by
  unfold jRe_nextByte_0
  refine q_s (pc' := 1) (ls' := [vR 115]) (st' := [vR 115]) (g' := g) k72_0 rfl rfl ?_
  refine q_getI (w := 2) (pc' := 4) k72_1 rfl rfl rfl rfl ?_
  refine q_s (pc' := 5) (ls' := [vR 115]) (st' := [vR 115, vI (g 115 2)]) (g' := g) k72_4 rfl rfl ?_
  refine q_getF (r := 113) (pc' := 8) k72_5 rfl rfl rfl rfl ?_
  refine q_getI (w := 1) (pc' := 11) k72_8 rfl rfl rfl rfl ?_
  refine q_ic (P := g 113 1 ≤ g 115 2) (t := 43) (pc' := 14) k72_11 Iff.rfl rfl rfl (fun h1 => ?_) (fun h1 => ?_)
  · refine q_s (pc' := 44) (ls' := [vR 115]) (st' := [vR 115]) (g' := g) k72_43 rfl rfl ?_
    refine q_getF (r := 113) (pc' := 47) k72_44 rfl rfl rfl rfl ?_
    refine q_s (pc' := 48) (ls' := [vR 115]) (st' := [vR 115, vR 113]) (g' := g) k72_47 rfl rfl ?_
    refine q_getI (w := 2) (pc' := 51) k72_48 rfl rfl rfl rfl ?_
    refine q_callI (ls0 := [vR 113, vI (g 115 2)]) (rest := []) (pc' := 54) rfl k72_51 rfl (hy4 rfl rfl rfl rfl) rfl rfl hq_71 rfl (fun q2 => ?_)
    exact q_e k72_54 rfl rfl rfl
  · refine q_s (pc' := 15) (ls' := [vR 115]) (st' := [vR 115]) (g' := g) k72_14 rfl rfl ?_
    refine q_getF (r := 113) (pc' := 18) k72_15 rfl rfl rfl rfl ?_
    refine q_s (pc' := 19) (ls' := [vR 115]) (st' := [vR 115, vR 113]) (g' := g) k72_18 rfl rfl ?_
    refine q_getI (w := 2) (pc' := 22) k72_19 rfl rfl rfl rfl ?_
    refine q_callI (ls0 := [vR 113, vI (g 115 2)]) (rest := []) (pc' := 25) rfl k72_22 rfl (hy4 rfl rfl rfl rfl) rfl rfl hq_71 rfl (fun q3 => ?_)
    refine q_s (pc' := 27) (ls' := [vR 115]) (st' := [vI 32, vI q3.1]) (g' := q3.2) k72_25 rfl rfl ?_
    refine q_ic (P := q3.1 ≠ 32) (t := 43) (pc' := 30) k72_27 Iff.rfl rfl rfl (fun h4 => ?_) (fun h4 => ?_)
    · refine q_s (pc' := 44) (ls' := [vR 115]) (st' := [vR 115]) (g' := q3.2) k72_43 rfl rfl ?_
      refine q_getF (r := 113) (pc' := 47) k72_44 rfl rfl rfl rfl ?_
      refine q_s (pc' := 48) (ls' := [vR 115]) (st' := [vR 115, vR 113]) (g' := q3.2) k72_47 rfl rfl ?_
      refine q_getI (w := 2) (pc' := 51) k72_48 rfl rfl rfl rfl ?_
      refine q_callI (ls0 := [vR 113, vI (q3.2 115 2)]) (rest := []) (pc' := 54) rfl k72_51 rfl (hy4 rfl rfl rfl rfl) rfl rfl hq_71 rfl (fun q5 => ?_)
      exact q_e k72_54 rfl rfl rfl
    · refine q_s (pc' := 31) (ls' := [vR 115]) (st' := [vR 115]) (g' := q3.2) k72_30 rfl rfl ?_
      refine q_s (pc' := 32) (ls' := [vR 115]) (st' := [vR 115, vR 115]) (g' := q3.2) k72_31 rfl rfl ?_
      refine q_getI (w := 2) (pc' := 35) k72_32 rfl rfl rfl rfl ?_
      refine q_s (pc' := 36) (ls' := [vR 115]) (st' := [vI 1, vI (q3.2 115 2), vR 115]) (g' := q3.2) k72_35 rfl rfl ?_
      refine q_s (pc' := 37) (ls' := [vR 115]) (st' := [vI (iw ((q3.2 115 2) + 1)), vR 115]) (g' := q3.2) k72_36 rfl rfl ?_
      refine q_putI (w := 2) (pc' := 40) k72_37 rfl rfl rfl rfl ?_
      refine q_s (pc' := 0) (ls' := [vR 115]) (st' := []) (g' := up q3.2 115 2 (iw ((q3.2 115 2) + 1))) k72_40 rfl rfl ?_
      rfl
set_option maxHeartbeats 4000000 in
theorem jRe_failAt_eq (L : Nat) (a1 : Int) (g : AMem) : jRe_failAt L a1 g = some (0, up g 115 3 a1) := by
  unfold jRe_failAt
  refine q_s (pc' := 1) (ls' := [vR 115, vI a1]) (st' := [vR 115]) (g' := g) k73_0 rfl rfl ?_
  refine q_s (pc' := 2) (ls' := [vR 115, vI a1]) (st' := [vI a1, vR 115]) (g' := g) k73_1 rfl rfl ?_
  refine q_putI (w := 3) (pc' := 5) k73_2 rfl rfl rfl rfl ?_
  refine q_s (pc' := 6) (ls' := [vR 115, vI a1]) (st' := [vI 0]) (g' := up g 115 3 a1) k73_5 rfl rfl ?_
  exact q_e k73_6 rfl rfl rfl
set_option maxHeartbeats 4000000 in
theorem jRe_isFigure_eq (L : Nat) (a0 : Int) (g : AMem) : jRe_isFigure L a0 g = if a0 < 48 then (some (0, g)) else (if 57 < a0 then (some (0, g)) else (some (1, g))) := by
  unfold jRe_isFigure
  refine q_s (pc' := 1) (ls' := [vI a0]) (st' := [vI a0]) (g' := g) k74_0 rfl rfl ?_
  refine q_s (pc' := 3) (ls' := [vI a0]) (st' := [vI 48, vI a0]) (g' := g) k74_1 rfl rfl ?_
  refine q_ic (P := a0 < 48) (t := 16) (pc' := 6) k74_3 Iff.rfl rfl rfl (fun h1 => ?_) (fun h1 => ?_)
  · refine q_s (pc' := 17) (ls' := [vI a0]) (st' := [vI 0]) (g' := g) k74_16 rfl rfl ?_
    exact q_e k74_17 rfl rfl rfl
  · refine q_s (pc' := 7) (ls' := [vI a0]) (st' := [vI a0]) (g' := g) k74_6 rfl rfl ?_
    refine q_s (pc' := 9) (ls' := [vI a0]) (st' := [vI 57, vI a0]) (g' := g) k74_7 rfl rfl ?_
    refine q_ic (P := 57 < a0) (t := 16) (pc' := 12) k74_9 Iff.rfl rfl rfl (fun h2 => ?_) (fun h2 => ?_)
    · refine q_s (pc' := 17) (ls' := [vI a0]) (st' := [vI 0]) (g' := g) k74_16 rfl rfl ?_
      exact q_e k74_17 rfl rfl rfl
    · refine q_s (pc' := 13) (ls' := [vI a0]) (st' := [vI 1]) (g' := g) k74_12 rfl rfl ?_
      refine q_s (pc' := 17) (ls' := [vI a0]) (st' := [vI 1]) (g' := g) k74_13 rfl rfl ?_
      exact q_e k74_17 rfl rfl rfl
set_option maxHeartbeats 4000000 in
theorem jRe_readNumber_eq (L : Nat) (g : AMem) : jRe_readNumber L g = jRe_readNumber_4 L 0 0 g := by
  unfold jRe_readNumber
  refine q_s (pc' := 1) (ls' := [vR 115, vU, vU]) (st' := [vI 0]) (g' := g) k75_0 rfl rfl ?_
  refine q_s (pc' := 2) (ls' := [vR 115, vI 0, vU]) (st' := []) (g' := g) k75_1 rfl rfl ?_
  refine q_s (pc' := 3) (ls' := [vR 115, vI 0, vU]) (st' := [vI 0]) (g' := g) k75_2 rfl rfl ?_
  refine q_s (pc' := 4) (ls' := [vR 115, vI 0, vI 0]) (st' := []) (g' := g) k75_3 rfl rfl ?_
  rfl
set_option maxHeartbeats 4000000 in
theorem jRe_readNumber_4_eq (L : Nat) (l1 : Int) (l2 : Int) (g : AMem) : jRe_readNumber_4 L l1 l2 g = if g 113 1 ≤ g 115 2 then (some (l1, g)) else ((jTe_at L (g 115 2) g).bind (fun q2 => (jRe_isFigure L q2.1 q2.2).bind (fun q3 => if q3.1 = 0 then (some (l1, q3.2)) else (if iw (l2 + 1) ≤ 3 then ((jTe_at L (q3.2 115 2) q3.2).bind (fun q6 => jRe_readNumber_4 L (iw ((iw ((iw (10 * l1)) + q6.1)) - 48)) (iw (l2 + 1)) (up q6.2 115 2 (iw ((q6.2 115 2) + 1))))) else (jRe_readNumber_4 L 1000 (iw (l2 + 1)) (up q3.2 115 2 (iw ((q3.2 115 2) + 1)))))))) := by
  unfold jRe_readNumber_4
  refine q_s (pc' := 5) (ls' := [vR 115, vI l1, vI l2]) (st' := [vR 115]) (g' := g) k75_4 rfl rfl ?_
  refine q_getI (w := 2) (pc' := 8) k75_5 rfl rfl rfl rfl ?_
  refine q_s (pc' := 9) (ls' := [vR 115, vI l1, vI l2]) (st' := [vR 115, vI (g 115 2)]) (g' := g) k75_8 rfl rfl ?_
  refine q_getF (r := 113) (pc' := 12) k75_9 rfl rfl rfl rfl ?_
  refine q_getI (w := 1) (pc' := 15) k75_12 rfl rfl rfl rfl ?_
  refine q_ic (P := g 113 1 ≤ g 115 2) (t := 82) (pc' := 18) k75_15 Iff.rfl rfl rfl (fun h1 => ?_) (fun h1 => ?_)
  · refine q_s (pc' := 83) (ls' := [vR 115, vI l1, vI l2]) (st' := [vI l1]) (g' := g) k75_82 rfl rfl ?_
    exact q_e k75_83 rfl rfl rfl
  · refine q_s (pc' := 19) (ls' := [vR 115, vI l1, vI l2]) (st' := [vR 115]) (g' := g) k75_18 rfl rfl ?_
    refine q_getF (r := 113) (pc' := 22) k75_19 rfl rfl rfl rfl ?_
    refine q_s (pc' := 23) (ls' := [vR 115, vI l1, vI l2]) (st' := [vR 115, vR 113]) (g' := g) k75_22 rfl rfl ?_
    refine q_getI (w := 2) (pc' := 26) k75_23 rfl rfl rfl rfl ?_
    refine q_callI (ls0 := [vR 113, vI (g 115 2)]) (rest := []) (pc' := 29) rfl k75_26 rfl (hy4 rfl rfl rfl rfl) rfl rfl hq_71 rfl (fun q2 => ?_)
    refine q_callI (ls0 := [vI q2.1]) (rest := []) (pc' := 32) rfl k75_29 rfl (hy4 rfl rfl rfl rfl) rfl rfl hq_74 rfl (fun q3 => ?_)
    refine q_if (P := q3.1 = 0) (t := 82) (pc' := 35) k75_32 Iff.rfl rfl rfl (fun h4 => ?_) (fun h4 => ?_)
    · refine q_s (pc' := 83) (ls' := [vR 115, vI l1, vI l2]) (st' := [vI l1]) (g' := q3.2) k75_82 rfl rfl ?_
      exact q_e k75_83 rfl rfl rfl
    · refine q_s (pc' := 38) (ls' := [vR 115, vI l1, vI (iw (l2 + 1))]) (st' := []) (g' := q3.2) k75_35 rfl rfl ?_
      refine q_s (pc' := 39) (ls' := [vR 115, vI l1, vI (iw (l2 + 1))]) (st' := [vI (iw (l2 + 1))]) (g' := q3.2) k75_38 rfl rfl ?_
      refine q_s (pc' := 40) (ls' := [vR 115, vI l1, vI (iw (l2 + 1))]) (st' := [vI 3, vI (iw (l2 + 1))]) (g' := q3.2) k75_39 rfl rfl ?_
      refine q_ic (P := iw (l2 + 1) ≤ 3) (t := 49) (pc' := 43) k75_40 Iff.rfl rfl rfl (fun h5 => ?_) (fun h5 => ?_)
      · refine q_s (pc' := 51) (ls' := [vR 115, vI l1, vI (iw (l2 + 1))]) (st' := [vI 10]) (g' := q3.2) k75_49 rfl rfl ?_
        refine q_s (pc' := 52) (ls' := [vR 115, vI l1, vI (iw (l2 + 1))]) (st' := [vI l1, vI 10]) (g' := q3.2) k75_51 rfl rfl ?_
        refine q_s (pc' := 53) (ls' := [vR 115, vI l1, vI (iw (l2 + 1))]) (st' := [vI (iw (10 * l1))]) (g' := q3.2) k75_52 rfl rfl ?_
        refine q_s (pc' := 54) (ls' := [vR 115, vI l1, vI (iw (l2 + 1))]) (st' := [vR 115, vI (iw (10 * l1))]) (g' := q3.2) k75_53 rfl rfl ?_
        refine q_getF (r := 113) (pc' := 57) k75_54 rfl rfl rfl rfl ?_
        refine q_s (pc' := 58) (ls' := [vR 115, vI l1, vI (iw (l2 + 1))]) (st' := [vR 115, vR 113, vI (iw (10 * l1))]) (g' := q3.2) k75_57 rfl rfl ?_
        refine q_getI (w := 2) (pc' := 61) k75_58 rfl rfl rfl rfl ?_
        refine q_callI (ls0 := [vR 113, vI (q3.2 115 2)]) (rest := [vI (iw (10 * l1))]) (pc' := 64) rfl k75_61 rfl (hy4 rfl rfl rfl rfl) rfl rfl hq_71 rfl (fun q6 => ?_)
        refine q_s (pc' := 65) (ls' := [vR 115, vI l1, vI (iw (l2 + 1))]) (st' := [vI (iw ((iw (10 * l1)) + q6.1))]) (g' := q6.2) k75_64 rfl rfl ?_
        refine q_s (pc' := 67) (ls' := [vR 115, vI l1, vI (iw (l2 + 1))]) (st' := [vI 48, vI (iw ((iw (10 * l1)) + q6.1))]) (g' := q6.2) k75_65 rfl rfl ?_
        refine q_s (pc' := 68) (ls' := [vR 115, vI l1, vI (iw (l2 + 1))]) (st' := [vI (iw ((iw ((iw (10 * l1)) + q6.1)) - 48))]) (g' := q6.2) k75_67 rfl rfl ?_
        refine q_s (pc' := 69) (ls' := [vR 115, vI (iw ((iw ((iw (10 * l1)) + q6.1)) - 48)), vI (iw (l2 + 1))]) (st' := []) (g' := q6.2) k75_68 rfl rfl ?_
        refine q_s (pc' := 70) (ls' := [vR 115, vI (iw ((iw ((iw (10 * l1)) + q6.1)) - 48)), vI (iw (l2 + 1))]) (st' := [vR 115]) (g' := q6.2) k75_69 rfl rfl ?_
        refine q_s (pc' := 71) (ls' := [vR 115, vI (iw ((iw ((iw (10 * l1)) + q6.1)) - 48)), vI (iw (l2 + 1))]) (st' := [vR 115, vR 115]) (g' := q6.2) k75_70 rfl rfl ?_
        refine q_getI (w := 2) (pc' := 74) k75_71 rfl rfl rfl rfl ?_
        refine q_s (pc' := 75) (ls' := [vR 115, vI (iw ((iw ((iw (10 * l1)) + q6.1)) - 48)), vI (iw (l2 + 1))]) (st' := [vI 1, vI (q6.2 115 2), vR 115]) (g' := q6.2) k75_74 rfl rfl ?_
        refine q_s (pc' := 76) (ls' := [vR 115, vI (iw ((iw ((iw (10 * l1)) + q6.1)) - 48)), vI (iw (l2 + 1))]) (st' := [vI (iw ((q6.2 115 2) + 1)), vR 115]) (g' := q6.2) k75_75 rfl rfl ?_
        refine q_putI (w := 2) (pc' := 79) k75_76 rfl rfl rfl rfl ?_
        refine q_s (pc' := 4) (ls' := [vR 115, vI (iw ((iw ((iw (10 * l1)) + q6.1)) - 48)), vI (iw (l2 + 1))]) (st' := []) (g' := up q6.2 115 2 (iw ((q6.2 115 2) + 1))) k75_79 rfl rfl ?_
        rfl
      · refine q_s (pc' := 46) (ls' := [vR 115, vI l1, vI (iw (l2 + 1))]) (st' := [vI 1000]) (g' := q3.2) k75_43 rfl rfl ?_
        refine q_s (pc' := 68) (ls' := [vR 115, vI l1, vI (iw (l2 + 1))]) (st' := [vI 1000]) (g' := q3.2) k75_46 rfl rfl ?_
        refine q_s (pc' := 69) (ls' := [vR 115, vI 1000, vI (iw (l2 + 1))]) (st' := []) (g' := q3.2) k75_68 rfl rfl ?_
        refine q_s (pc' := 70) (ls' := [vR 115, vI 1000, vI (iw (l2 + 1))]) (st' := [vR 115]) (g' := q3.2) k75_69 rfl rfl ?_
        refine q_s (pc' := 71) (ls' := [vR 115, vI 1000, vI (iw (l2 + 1))]) (st' := [vR 115, vR 115]) (g' := q3.2) k75_70 rfl rfl ?_
        refine q_getI (w := 2) (pc' := 74) k75_71 rfl rfl rfl rfl ?_
        refine q_s (pc' := 75) (ls' := [vR 115, vI 1000, vI (iw (l2 + 1))]) (st' := [vI 1, vI (q3.2 115 2), vR 115]) (g' := q3.2) k75_74 rfl rfl ?_
        refine q_s (pc' := 76) (ls' := [vR 115, vI 1000, vI (iw (l2 + 1))]) (st' := [vI (iw ((q3.2 115 2) + 1)), vR 115]) (g' := q3.2) k75_75 rfl rfl ?_
        refine q_putI (w := 2) (pc' := 79) k75_76 rfl rfl rfl rfl ?_
        refine q_s (pc' := 4) (ls' := [vR 115, vI 1000, vI (iw (l2 + 1))]) (st' := []) (g' := up q3.2 115 2 (iw ((q3.2 115 2) + 1))) k75_79 rfl rfl ?_
        rfl
set_option maxHeartbeats 4000000 in
theorem jRg_isWidth_eq (L : Nat) (a0 : Int) (g : AMem) : jRg_isWidth L a0 g = if a0 = 1 then (some (1, g)) else (if a0 = 2 then (some (1, g)) else (if a0 ≠ 4 then (some (0, g)) else (some (1, g)))) := by
  unfold jRg_isWidth
  refine q_s (pc' := 1) (ls' := [vI a0]) (st' := [vI a0]) (g' := g) k76_0 rfl rfl ?_
  refine q_s (pc' := 2) (ls' := [vI a0]) (st' := [vI 1, vI a0]) (g' := g) k76_1 rfl rfl ?_
  refine q_ic (P := a0 = 1) (t := 15) (pc' := 5) k76_2 Iff.rfl rfl rfl (fun h1 => ?_) (fun h1 => ?_)
  · refine q_s (pc' := 16) (ls' := [vI a0]) (st' := [vI 1]) (g' := g) k76_15 rfl rfl ?_
    refine q_s (pc' := 20) (ls' := [vI a0]) (st' := [vI 1]) (g' := g) k76_16 rfl rfl ?_
    exact q_e k76_20 rfl rfl rfl
  · refine q_s (pc' := 6) (ls' := [vI a0]) (st' := [vI a0]) (g' := g) k76_5 rfl rfl ?_
    refine q_s (pc' := 7) (ls' := [vI a0]) (st' := [vI 2, vI a0]) (g' := g) k76_6 rfl rfl ?_
    refine q_ic (P := a0 = 2) (t := 15) (pc' := 10) k76_7 Iff.rfl rfl rfl (fun h2 => ?_) (fun h2 => ?_)
    · refine q_s (pc' := 16) (ls' := [vI a0]) (st' := [vI 1]) (g' := g) k76_15 rfl rfl ?_
      refine q_s (pc' := 20) (ls' := [vI a0]) (st' := [vI 1]) (g' := g) k76_16 rfl rfl ?_
      exact q_e k76_20 rfl rfl rfl
    · refine q_s (pc' := 11) (ls' := [vI a0]) (st' := [vI a0]) (g' := g) k76_10 rfl rfl ?_
      refine q_s (pc' := 12) (ls' := [vI a0]) (st' := [vI 4, vI a0]) (g' := g) k76_11 rfl rfl ?_
      refine q_ic (P := a0 ≠ 4) (t := 19) (pc' := 15) k76_12 Iff.rfl rfl rfl (fun h3 => ?_) (fun h3 => ?_)
      · refine q_s (pc' := 20) (ls' := [vI a0]) (st' := [vI 0]) (g' := g) k76_19 rfl rfl ?_
        exact q_e k76_20 rfl rfl rfl
      · refine q_s (pc' := 16) (ls' := [vI a0]) (st' := [vI 1]) (g' := g) k76_15 rfl rfl ?_
        refine q_s (pc' := 20) (ls' := [vI a0]) (st' := [vI 1]) (g' := g) k76_16 rfl rfl ?_
        exact q_e k76_20 rfl rfl rfl
set_option maxHeartbeats 4000000 in
theorem jRg_isRegion_eq (L : Nat) (a0 : Int) (g : AMem) : jRg_isRegion L a0 g = if a0 < 0 then (some (0, g)) else ((jRg_width L a0 g).bind (fun q2 => (jRg_isWidth L q2.1 q2.2).bind (fun q3 => if q3.1 ≠ 0 then ((jRg_firstByte L a0 q3.2).bind (fun q5 => (jRg_width L a0 q5.2).bind (fun q6 => if 32 < iw (q5.1 + q6.1) then (some (0, q6.2)) else (if q6.1 = 0 then none else if iw (q5.1 - q5.1.tdiv q6.1 * q6.1) ≠ 0 then (some (0, q6.2)) else (some (1, q6.2)))))) else (some (0, q3.2))))) := by
  unfold jRg_isRegion
  refine q_s (pc' := 1) (ls' := [vI a0, vU, vU]) (st' := [vI a0]) (g' := g) k77_0 rfl rfl ?_
  refine q_if (P := a0 < 0) (t := 14) (pc' := 4) k77_1 Iff.rfl rfl rfl (fun h1 => ?_) (fun h1 => ?_)
  · refine q_s (pc' := 15) (ls' := [vI a0, vU, vU]) (st' := [vI 0]) (g' := g) k77_14 rfl rfl ?_
    exact q_e k77_15 rfl rfl rfl
  · refine q_s (pc' := 5) (ls' := [vI a0, vU, vU]) (st' := [vI a0]) (g' := g) k77_4 rfl rfl ?_
    refine q_callI (ls0 := [vI a0]) (rest := []) (pc' := 8) rfl k77_5 rfl (hy4 rfl rfl rfl rfl) rfl rfl hq_2 rfl (fun q2 => ?_)
    refine q_callI (ls0 := [vI q2.1]) (rest := []) (pc' := 11) rfl k77_8 rfl (hy4 rfl rfl rfl rfl) rfl rfl hq_76 rfl (fun q3 => ?_)
    refine q_if (P := q3.1 ≠ 0) (t := 16) (pc' := 14) k77_11 Iff.rfl rfl rfl (fun h4 => ?_) (fun h4 => ?_)
    · refine q_s (pc' := 17) (ls' := [vI a0, vU, vU]) (st' := [vI a0]) (g' := q3.2) k77_16 rfl rfl ?_
      refine q_callI (ls0 := [vI a0]) (rest := []) (pc' := 20) rfl k77_17 rfl (hy4 rfl rfl rfl rfl) rfl rfl hq_1 rfl (fun q5 => ?_)
      refine q_s (pc' := 21) (ls' := [vI a0, vI q5.1, vU]) (st' := []) (g' := q5.2) k77_20 rfl rfl ?_
      refine q_s (pc' := 22) (ls' := [vI a0, vI q5.1, vU]) (st' := [vI a0]) (g' := q5.2) k77_21 rfl rfl ?_
      refine q_callI (ls0 := [vI a0]) (rest := []) (pc' := 25) rfl k77_22 rfl (hy4 rfl rfl rfl rfl) rfl rfl hq_2 rfl (fun q6 => ?_)
      refine q_s (pc' := 26) (ls' := [vI a0, vI q5.1, vI q6.1]) (st' := []) (g' := q6.2) k77_25 rfl rfl ?_
      refine q_s (pc' := 27) (ls' := [vI a0, vI q5.1, vI q6.1]) (st' := [vI q5.1]) (g' := q6.2) k77_26 rfl rfl ?_
      refine q_s (pc' := 28) (ls' := [vI a0, vI q5.1, vI q6.1]) (st' := [vI q6.1, vI q5.1]) (g' := q6.2) k77_27 rfl rfl ?_
      refine q_s (pc' := 29) (ls' := [vI a0, vI q5.1, vI q6.1]) (st' := [vI (iw (q5.1 + q6.1))]) (g' := q6.2) k77_28 rfl rfl ?_
      refine q_s (pc' := 31) (ls' := [vI a0, vI q5.1, vI q6.1]) (st' := [vI 32, vI (iw (q5.1 + q6.1))]) (g' := q6.2) k77_29 rfl rfl ?_
      refine q_ic (P := 32 < iw (q5.1 + q6.1)) (t := 44) (pc' := 34) k77_31 Iff.rfl rfl rfl (fun h7 => ?_) (fun h7 => ?_)
      · refine q_s (pc' := 45) (ls' := [vI a0, vI q5.1, vI q6.1]) (st' := [vI 0]) (g' := q6.2) k77_44 rfl rfl ?_
        exact q_e k77_45 rfl rfl rfl
      · refine q_s (pc' := 35) (ls' := [vI a0, vI q5.1, vI q6.1]) (st' := [vI q5.1]) (g' := q6.2) k77_34 rfl rfl ?_
        refine q_s (pc' := 36) (ls' := [vI a0, vI q5.1, vI q6.1]) (st' := [vI q6.1, vI q5.1]) (g' := q6.2) k77_35 rfl rfl ?_
        refine q_irem (pc' := 37) rfl k77_36 rfl (fun _ => ?_)
        refine q_if (P := iw (q5.1 - q5.1.tdiv q6.1 * q6.1) ≠ 0) (t := 44) (pc' := 40) k77_37 Iff.rfl rfl rfl (fun h8 => ?_) (fun h8 => ?_)
        · refine q_s (pc' := 45) (ls' := [vI a0, vI q5.1, vI q6.1]) (st' := [vI 0]) (g' := q6.2) k77_44 rfl rfl ?_
          exact q_e k77_45 rfl rfl rfl
        · refine q_s (pc' := 41) (ls' := [vI a0, vI q5.1, vI q6.1]) (st' := [vI 1]) (g' := q6.2) k77_40 rfl rfl ?_
          refine q_s (pc' := 45) (ls' := [vI a0, vI q5.1, vI q6.1]) (st' := [vI 1]) (g' := q6.2) k77_41 rfl rfl ?_
          exact q_e k77_45 rfl rfl rfl
    · refine q_s (pc' := 15) (ls' := [vI a0, vU, vU]) (st' := [vI 0]) (g' := q3.2) k77_14 rfl rfl ?_
      exact q_e k77_15 rfl rfl rfl
set_option maxHeartbeats 4000000 in
theorem jRe_readEnd_eq (L : Nat) (g : AMem) : jRe_readEnd L g = (jRe_nextByte L g).bind (fun q1 => if q1.1 = 59 then (some (1, up q1.2 115 2 (iw ((q1.2 115 2) + 1)))) else ((jRe_failAt L (q1.2 115 2) q1.2).bind (fun q3 => if q3.1 = 0 ∨ q3.1 = 1 then some (q3.1, q3.2) else none))) := by
  unfold jRe_readEnd
  refine q_s (pc' := 1) (ls' := [vR 115]) (st' := [vR 115]) (g' := g) k78_0 rfl rfl ?_
  refine q_callI (ls0 := [vR 115]) (rest := []) (pc' := 4) rfl k78_1 rfl (hy4 rfl rfl rfl rfl) rfl rfl hq_72 rfl (fun q1 => ?_)
  refine q_s (pc' := 6) (ls' := [vR 115]) (st' := [vI 59, vI q1.1]) (g' := q1.2) k78_4 rfl rfl ?_
  refine q_ic (P := q1.1 = 59) (t := 18) (pc' := 9) k78_6 Iff.rfl rfl rfl (fun h2 => ?_) (fun h2 => ?_)
  · refine q_s (pc' := 19) (ls' := [vR 115]) (st' := [vR 115]) (g' := q1.2) k78_18 rfl rfl ?_
    refine q_s (pc' := 20) (ls' := [vR 115]) (st' := [vR 115, vR 115]) (g' := q1.2) k78_19 rfl rfl ?_
    refine q_getI (w := 2) (pc' := 23) k78_20 rfl rfl rfl rfl ?_
    refine q_s (pc' := 24) (ls' := [vR 115]) (st' := [vI 1, vI (q1.2 115 2), vR 115]) (g' := q1.2) k78_23 rfl rfl ?_
    refine q_s (pc' := 25) (ls' := [vR 115]) (st' := [vI (iw ((q1.2 115 2) + 1)), vR 115]) (g' := q1.2) k78_24 rfl rfl ?_
    refine q_putI (w := 2) (pc' := 28) k78_25 rfl rfl rfl rfl ?_
    refine q_s (pc' := 29) (ls' := [vR 115]) (st' := [vI 1]) (g' := up q1.2 115 2 (iw ((q1.2 115 2) + 1))) k78_28 rfl rfl ?_
    exact q_e k78_29 rfl rfl rfl
  · refine q_s (pc' := 10) (ls' := [vR 115]) (st' := [vR 115]) (g' := q1.2) k78_9 rfl rfl ?_
    refine q_s (pc' := 11) (ls' := [vR 115]) (st' := [vR 115, vR 115]) (g' := q1.2) k78_10 rfl rfl ?_
    refine q_getI (w := 2) (pc' := 14) k78_11 rfl rfl rfl rfl ?_
    refine q_callI (ls0 := [vR 115, vI (q1.2 115 2)]) (rest := []) (pc' := 17) rfl k78_14 rfl (hy4 rfl rfl rfl rfl) rfl rfl hq_73 rfl (fun q3 => ?_)
    exact q_eb rfl k78_17 rfl rfl
set_option maxHeartbeats 4000000 in
theorem jRe_readBlock_eq (L : Nat) (g : AMem) : jRe_readBlock L g = if kin (SH L) (g 115 1) = 3 then ((jGr_addBlock L (g 115 1) g).bind (fun q2 => if kin (SH L) (q2.2 115 1) = 3 then ((jGr_hasBlock L (q2.2 115 1) q2.1 q2.2).bind (fun q4 => if q4.1 ≠ 0 then (jRe_readBlock_40 L q2.1 0 vU vU (up q4.2 115 2 (iw ((q4.2 115 2) + 1)))) else ((jRe_failAt L (q4.2 115 2) q4.2).bind (fun q6 => if q6.1 = 0 ∨ q6.1 = 1 then some (q6.1, q6.2) else none)))) else none)) else none := by
  unfold jRe_readBlock
  refine q_s (pc' := 1) (ls' := [vR 115, vU, vU, vU, vU]) (st' := [vR 115]) (g' := g) k79_0 rfl rfl ?_
  refine q_getM (w := 1) (c := 3) (pc' := 4) rfl k79_1 rfl rfl rfl rfl rfl (fun h1 => ?_)
  refine q_callI (ls0 := [vR (g 115 1)]) (rest := []) (pc' := 7) rfl k79_4 rfl (hy4 rfl rfl (rcv0 rfl h1) rfl) rfl rfl hq_17 rfl (fun q2 => ?_)
  refine q_s (pc' := 8) (ls' := [vR 115, vI q2.1, vU, vU, vU]) (st' := []) (g' := q2.2) k79_7 rfl rfl ?_
  refine q_s (pc' := 9) (ls' := [vR 115, vI q2.1, vU, vU, vU]) (st' := [vR 115]) (g' := q2.2) k79_8 rfl rfl ?_
  refine q_getM (w := 1) (c := 3) (pc' := 12) rfl k79_9 rfl rfl rfl rfl rfl (fun h3 => ?_)
  refine q_s (pc' := 13) (ls' := [vR 115, vI q2.1, vU, vU, vU]) (st' := [vI q2.1, vR (q2.2 115 1)]) (g' := q2.2) k79_12 rfl rfl ?_
  refine q_callI (ls0 := [vR (q2.2 115 1), vI q2.1]) (rest := []) (pc' := 16) rfl k79_13 rfl (hy4 rfl rfl (rcv0 rfl h3) rfl) rfl rfl hq_14 rfl (fun q4 => ?_)
  refine q_if (P := q4.1 ≠ 0) (t := 28) (pc' := 19) k79_16 Iff.rfl rfl rfl (fun h5 => ?_) (fun h5 => ?_)
  · refine q_s (pc' := 29) (ls' := [vR 115, vI q2.1, vU, vU, vU]) (st' := [vR 115]) (g' := q4.2) k79_28 rfl rfl ?_
    refine q_s (pc' := 30) (ls' := [vR 115, vI q2.1, vU, vU, vU]) (st' := [vR 115, vR 115]) (g' := q4.2) k79_29 rfl rfl ?_
    refine q_getI (w := 2) (pc' := 33) k79_30 rfl rfl rfl rfl ?_
    refine q_s (pc' := 34) (ls' := [vR 115, vI q2.1, vU, vU, vU]) (st' := [vI 1, vI (q4.2 115 2), vR 115]) (g' := q4.2) k79_33 rfl rfl ?_
    refine q_s (pc' := 35) (ls' := [vR 115, vI q2.1, vU, vU, vU]) (st' := [vI (iw ((q4.2 115 2) + 1)), vR 115]) (g' := q4.2) k79_34 rfl rfl ?_
    refine q_putI (w := 2) (pc' := 38) k79_35 rfl rfl rfl rfl ?_
    refine q_s (pc' := 39) (ls' := [vR 115, vI q2.1, vU, vU, vU]) (st' := [vI 0]) (g' := up q4.2 115 2 (iw ((q4.2 115 2) + 1))) k79_38 rfl rfl ?_
    refine q_s (pc' := 40) (ls' := [vR 115, vI q2.1, vI 0, vU, vU]) (st' := []) (g' := up q4.2 115 2 (iw ((q4.2 115 2) + 1))) k79_39 rfl rfl ?_
    rfl
  · refine q_s (pc' := 20) (ls' := [vR 115, vI q2.1, vU, vU, vU]) (st' := [vR 115]) (g' := q4.2) k79_19 rfl rfl ?_
    refine q_s (pc' := 21) (ls' := [vR 115, vI q2.1, vU, vU, vU]) (st' := [vR 115, vR 115]) (g' := q4.2) k79_20 rfl rfl ?_
    refine q_getI (w := 2) (pc' := 24) k79_21 rfl rfl rfl rfl ?_
    refine q_callI (ls0 := [vR 115, vI (q4.2 115 2)]) (rest := []) (pc' := 27) rfl k79_24 rfl (hy4 rfl rfl rfl rfl) rfl rfl hq_73 rfl (fun q6 => ?_)
    exact q_eb rfl k79_27 rfl rfl
set_option maxHeartbeats 4000000 in
theorem jRe_readBlock_40_eq (L : Nat) (l1 : Int) (l2 : Int) (w3 : AVal) (w4 : AVal) (g : AMem) : jRe_readBlock_40 L l1 l2 w3 w4 g = if 6 ≤ l2 then ((jRe_readEnd L g).bind (fun q8 => if q8.1 = 0 ∨ q8.1 = 1 then some (q8.1, q8.2) else none)) else ((jRe_nextByte L g).bind (fun q9 => (jRe_isFigure L q9.1 q9.2).bind (fun q10 => if q10.1 = 0 then ((jRe_readEnd L q10.2).bind (fun q12 => if q12.1 = 0 ∨ q12.1 = 1 then some (q12.1, q12.2) else none)) else ((jRe_readNumber L q10.2).bind (fun q13 => (jRg_isRegion L q13.1 q13.2).bind (fun q14 => if q14.1 = 0 then ((jRe_failAt L (q10.2 115 2) q14.2).bind (fun q16 => if q16.1 = 0 ∨ q16.1 = 1 then some (q16.1, q16.2) else none)) else (if kin (SH L) (q14.2 115 1) = 3 then (if 0 ≤ l1 ∧ l1 < 10 then ((jBk_hasRoomAt L (q14.2 115 1 + 2 + 2 * l1) q13.1 q14.2).bind (fun q19 => if q19.1 ≠ 0 then (if kin (SH L) (q19.2 115 1) = 3 then ((jGr_addParameter L (q19.2 115 1) l1 q13.1 q19.2).bind (fun q22 => jRe_readBlock_40 L l1 (iw (l2 + 1)) (vI (q10.2 115 2)) (vI q13.1) q22.2)) else none) else ((jRe_failAt L (q10.2 115 2) q19.2).bind (fun q23 => if q23.1 = 0 ∨ q23.1 = 1 then some (q23.1, q23.2) else none)))) else none) else none))))))) := by
  unfold jRe_readBlock_40
  refine q_s (pc' := 41) (ls' := [vR 115, vI l1, vI l2, w3, w4]) (st' := [vI l2]) (g' := g) k79_40 rfl rfl ?_
  refine q_s (pc' := 43) (ls' := [vR 115, vI l1, vI l2, w3, w4]) (st' := [vI 6, vI l2]) (g' := g) k79_41 rfl rfl ?_
  refine q_ic (P := 6 ≤ l2) (t := 115) (pc' := 46) k79_43 Iff.rfl rfl rfl (fun h7 => ?_) (fun h7 => ?_)
  · refine q_s (pc' := 116) (ls' := [vR 115, vI l1, vI l2, w3, w4]) (st' := [vR 115]) (g' := g) k79_115 rfl rfl ?_
    refine q_callI (ls0 := [vR 115]) (rest := []) (pc' := 119) rfl k79_116 rfl (hy4 rfl rfl rfl rfl) rfl rfl hq_78 rfl (fun q8 => ?_)
    exact q_eb rfl k79_119 rfl rfl
  · refine q_s (pc' := 47) (ls' := [vR 115, vI l1, vI l2, w3, w4]) (st' := [vR 115]) (g' := g) k79_46 rfl rfl ?_
    refine q_callI (ls0 := [vR 115]) (rest := []) (pc' := 50) rfl k79_47 rfl (hy4 rfl rfl rfl rfl) rfl rfl hq_72 rfl (fun q9 => ?_)
    refine q_callI (ls0 := [vI q9.1]) (rest := []) (pc' := 53) rfl k79_50 rfl (hy4 rfl rfl rfl rfl) rfl rfl hq_74 rfl (fun q10 => ?_)
    refine q_if (P := q10.1 = 0) (t := 115) (pc' := 56) k79_53 Iff.rfl rfl rfl (fun h11 => ?_) (fun h11 => ?_)
    · refine q_s (pc' := 116) (ls' := [vR 115, vI l1, vI l2, w3, w4]) (st' := [vR 115]) (g' := q10.2) k79_115 rfl rfl ?_
      refine q_callI (ls0 := [vR 115]) (rest := []) (pc' := 119) rfl k79_116 rfl (hy4 rfl rfl rfl rfl) rfl rfl hq_78 rfl (fun q12 => ?_)
      exact q_eb rfl k79_119 rfl rfl
    · refine q_s (pc' := 57) (ls' := [vR 115, vI l1, vI l2, w3, w4]) (st' := [vR 115]) (g' := q10.2) k79_56 rfl rfl ?_
      refine q_getI (w := 2) (pc' := 60) k79_57 rfl rfl rfl rfl ?_
      refine q_s (pc' := 61) (ls' := [vR 115, vI l1, vI l2, vI (q10.2 115 2), w4]) (st' := []) (g' := q10.2) k79_60 rfl rfl ?_
      refine q_s (pc' := 62) (ls' := [vR 115, vI l1, vI l2, vI (q10.2 115 2), w4]) (st' := [vR 115]) (g' := q10.2) k79_61 rfl rfl ?_
      refine q_callI (ls0 := [vR 115, vU, vU]) (rest := []) (pc' := 65) rfl k79_62 rfl (hy4 rfl rfl rfl rfl) rfl rfl hq_75 rfl (fun q13 => ?_)
      refine q_s (pc' := 67) (ls' := [vR 115, vI l1, vI l2, vI (q10.2 115 2), vI q13.1]) (st' := []) (g' := q13.2) k79_65 rfl rfl ?_
      refine q_s (pc' := 69) (ls' := [vR 115, vI l1, vI l2, vI (q10.2 115 2), vI q13.1]) (st' := [vI q13.1]) (g' := q13.2) k79_67 rfl rfl ?_
      refine q_callI (ls0 := [vI q13.1, vU, vU]) (rest := []) (pc' := 72) rfl k79_69 rfl (hy4 rfl rfl rfl rfl) rfl rfl hq_77 rfl (fun q14 => ?_)
      refine q_if (P := q14.1 = 0) (t := 92) (pc' := 75) k79_72 Iff.rfl rfl rfl (fun h15 => ?_) (fun h15 => ?_)
      · refine q_s (pc' := 93) (ls' := [vR 115, vI l1, vI l2, vI (q10.2 115 2), vI q13.1]) (st' := [vR 115]) (g' := q14.2) k79_92 rfl rfl ?_
        refine q_s (pc' := 94) (ls' := [vR 115, vI l1, vI l2, vI (q10.2 115 2), vI q13.1]) (st' := [vI (q10.2 115 2), vR 115]) (g' := q14.2) k79_93 rfl rfl ?_
        refine q_callI (ls0 := [vR 115, vI (q10.2 115 2)]) (rest := []) (pc' := 97) rfl k79_94 rfl (hy4 rfl rfl rfl rfl) rfl rfl hq_73 rfl (fun q16 => ?_)
        exact q_eb rfl k79_97 rfl rfl
      · refine q_s (pc' := 76) (ls' := [vR 115, vI l1, vI l2, vI (q10.2 115 2), vI q13.1]) (st' := [vR 115]) (g' := q14.2) k79_75 rfl rfl ?_
        refine q_getM (w := 1) (c := 3) (pc' := 79) rfl k79_76 rfl rfl rfl rfl rfl (fun h17 => ?_)
        refine q_getF (r := q14.2 115 1 + 1) (pc' := 82) k79_79 h17 rfl (kG_f h17).1 rfl ?_
        refine q_s (pc' := 83) (ls' := [vR 115, vI l1, vI l2, vI (q10.2 115 2), vI q13.1]) (st' := [vI l1, vR (q14.2 115 1 + 1)]) (g' := q14.2) k79_82 rfl rfl ?_
        refine q_aald (n := 10) (pc' := 84) rfl k79_83 (kG_f h17).2.2.1 rfl (q14.2 115 1 + 2 + 2 * l1) (fun h => (kG_b h17 h.1 h.2).1) (fun h18 => ?_)
        refine q_s (pc' := 86) (ls' := [vR 115, vI l1, vI l2, vI (q10.2 115 2), vI q13.1]) (st' := [vI q13.1, vR (q14.2 115 1 + 2 + 2 * l1)]) (g' := q14.2) k79_84 rfl rfl ?_
        refine q_callI (ls0 := [vR (q14.2 115 1 + 2 + 2 * l1), vI q13.1, vU]) (rest := []) (pc' := 89) rfl k79_86 rfl (hy4 rfl rfl (rcv0 rfl (kG_b h17 h18.1 h18.2).2) rfl) rfl rfl hq_4 rfl (fun q19 => ?_)
        refine q_if (P := q19.1 ≠ 0) (t := 98) (pc' := 92) k79_89 Iff.rfl rfl rfl (fun h20 => ?_) (fun h20 => ?_)
        · refine q_s (pc' := 99) (ls' := [vR 115, vI l1, vI l2, vI (q10.2 115 2), vI q13.1]) (st' := [vR 115]) (g' := q19.2) k79_98 rfl rfl ?_
          refine q_getM (w := 1) (c := 3) (pc' := 102) rfl k79_99 rfl rfl rfl rfl rfl (fun h21 => ?_)
          refine q_s (pc' := 103) (ls' := [vR 115, vI l1, vI l2, vI (q10.2 115 2), vI q13.1]) (st' := [vI l1, vR (q19.2 115 1)]) (g' := q19.2) k79_102 rfl rfl ?_
          refine q_s (pc' := 105) (ls' := [vR 115, vI l1, vI l2, vI (q10.2 115 2), vI q13.1]) (st' := [vI q13.1, vI l1, vR (q19.2 115 1)]) (g' := q19.2) k79_103 rfl rfl ?_
          refine q_callI (ls0 := [vR (q19.2 115 1), vI l1, vI q13.1, vU, vU]) (rest := []) (pc' := 108) rfl k79_105 rfl (hy4 rfl rfl (rcv0 rfl h21) rfl) rfl rfl hq_18 rfl (fun q22 => ?_)
          refine q_s (pc' := 109) (ls' := [vR 115, vI l1, vI l2, vI (q10.2 115 2), vI q13.1]) (st' := []) (g' := q22.2) k79_108 rfl rfl ?_
          refine q_s (pc' := 112) (ls' := [vR 115, vI l1, vI (iw (l2 + 1)), vI (q10.2 115 2), vI q13.1]) (st' := []) (g' := q22.2) k79_109 rfl rfl ?_
          refine q_s (pc' := 40) (ls' := [vR 115, vI l1, vI (iw (l2 + 1)), vI (q10.2 115 2), vI q13.1]) (st' := []) (g' := q22.2) k79_112 rfl rfl ?_
          rfl
        · refine q_s (pc' := 93) (ls' := [vR 115, vI l1, vI l2, vI (q10.2 115 2), vI q13.1]) (st' := [vR 115]) (g' := q19.2) k79_92 rfl rfl ?_
          refine q_s (pc' := 94) (ls' := [vR 115, vI l1, vI l2, vI (q10.2 115 2), vI q13.1]) (st' := [vI (q10.2 115 2), vR 115]) (g' := q19.2) k79_93 rfl rfl ?_
          refine q_callI (ls0 := [vR 115, vI (q10.2 115 2)]) (rest := []) (pc' := 97) rfl k79_94 rfl (hy4 rfl rfl rfl rfl) rfl rfl hq_73 rfl (fun q23 => ?_)
          exact q_eb rfl k79_97 rfl rfl
set_option maxHeartbeats 4000000 in
theorem jRe_readNumberBelow_eq (L : Nat) (a1 : Int) (g : AMem) : jRe_readNumberBelow L a1 g = (jRe_nextByte L g).bind (fun q1 => (jRe_isFigure L q1.1 q1.2).bind (fun q2 => if q2.1 ≠ 0 then ((jRe_readNumber L q2.2).bind (fun q4 => (jX_isBelow L q4.1 a1 q4.2).bind (fun q5 => if q5.1 ≠ 0 then (some (q4.1, q5.2)) else ((jRe_failAt L (q2.2 115 2) q5.2).bind (fun q7 => some ((-1), q7.2)))))) else ((jRe_failAt L (q2.2 115 2) q2.2).bind (fun q8 => some ((-1), q8.2))))) := by
  unfold jRe_readNumberBelow
  refine q_s (pc' := 1) (ls' := [vR 115, vI a1, vU, vU]) (st' := [vR 115]) (g' := g) k80_0 rfl rfl ?_
  refine q_callI (ls0 := [vR 115]) (rest := []) (pc' := 4) rfl k80_1 rfl (hy4 rfl rfl rfl rfl) rfl rfl hq_72 rfl (fun q1 => ?_)
  refine q_callI (ls0 := [vI q1.1]) (rest := []) (pc' := 7) rfl k80_4 rfl (hy4 rfl rfl rfl rfl) rfl rfl hq_74 rfl (fun q2 => ?_)
  refine q_if (P := q2.1 ≠ 0) (t := 21) (pc' := 10) k80_7 Iff.rfl rfl rfl (fun h3 => ?_) (fun h3 => ?_)
  · refine q_s (pc' := 22) (ls' := [vR 115, vI a1, vU, vU]) (st' := [vR 115]) (g' := q2.2) k80_21 rfl rfl ?_
    refine q_getI (w := 2) (pc' := 25) k80_22 rfl rfl rfl rfl ?_
    refine q_s (pc' := 26) (ls' := [vR 115, vI a1, vI (q2.2 115 2), vU]) (st' := []) (g' := q2.2) k80_25 rfl rfl ?_
    refine q_s (pc' := 27) (ls' := [vR 115, vI a1, vI (q2.2 115 2), vU]) (st' := [vR 115]) (g' := q2.2) k80_26 rfl rfl ?_
    refine q_callI (ls0 := [vR 115, vU, vU]) (rest := []) (pc' := 30) rfl k80_27 rfl (hy4 rfl rfl rfl rfl) rfl rfl hq_75 rfl (fun q4 => ?_)
    refine q_s (pc' := 31) (ls' := [vR 115, vI a1, vI (q2.2 115 2), vI q4.1]) (st' := []) (g' := q4.2) k80_30 rfl rfl ?_
    refine q_s (pc' := 32) (ls' := [vR 115, vI a1, vI (q2.2 115 2), vI q4.1]) (st' := [vI q4.1]) (g' := q4.2) k80_31 rfl rfl ?_
    refine q_s (pc' := 33) (ls' := [vR 115, vI a1, vI (q2.2 115 2), vI q4.1]) (st' := [vI a1, vI q4.1]) (g' := q4.2) k80_32 rfl rfl ?_
    refine q_callI (ls0 := [vI q4.1, vI a1]) (rest := []) (pc' := 36) rfl k80_33 rfl (hy4 rfl rfl rfl rfl) rfl rfl hq_13 rfl (fun q5 => ?_)
    refine q_if (P := q5.1 ≠ 0) (t := 47) (pc' := 39) k80_36 Iff.rfl rfl rfl (fun h6 => ?_) (fun h6 => ?_)
    · refine q_s (pc' := 48) (ls' := [vR 115, vI a1, vI (q2.2 115 2), vI q4.1]) (st' := [vI q4.1]) (g' := q5.2) k80_47 rfl rfl ?_
      exact q_e k80_48 rfl rfl rfl
    · refine q_s (pc' := 40) (ls' := [vR 115, vI a1, vI (q2.2 115 2), vI q4.1]) (st' := [vR 115]) (g' := q5.2) k80_39 rfl rfl ?_
      refine q_s (pc' := 41) (ls' := [vR 115, vI a1, vI (q2.2 115 2), vI q4.1]) (st' := [vI (q2.2 115 2), vR 115]) (g' := q5.2) k80_40 rfl rfl ?_
      refine q_callI (ls0 := [vR 115, vI (q2.2 115 2)]) (rest := []) (pc' := 44) rfl k80_41 rfl (hy4 rfl rfl rfl rfl) rfl rfl hq_73 rfl (fun q7 => ?_)
      refine q_s (pc' := 45) (ls' := [vR 115, vI a1, vI (q2.2 115 2), vI q4.1]) (st' := []) (g' := q7.2) k80_44 rfl rfl ?_
      refine q_s (pc' := 46) (ls' := [vR 115, vI a1, vI (q2.2 115 2), vI q4.1]) (st' := [vI (-1)]) (g' := q7.2) k80_45 rfl rfl ?_
      exact q_e k80_46 rfl rfl rfl
  · refine q_s (pc' := 11) (ls' := [vR 115, vI a1, vU, vU]) (st' := [vR 115]) (g' := q2.2) k80_10 rfl rfl ?_
    refine q_s (pc' := 12) (ls' := [vR 115, vI a1, vU, vU]) (st' := [vR 115, vR 115]) (g' := q2.2) k80_11 rfl rfl ?_
    refine q_getI (w := 2) (pc' := 15) k80_12 rfl rfl rfl rfl ?_
    refine q_callI (ls0 := [vR 115, vI (q2.2 115 2)]) (rest := []) (pc' := 18) rfl k80_15 rfl (hy4 rfl rfl rfl rfl) rfl rfl hq_73 rfl (fun q8 => ?_)
    refine q_s (pc' := 19) (ls' := [vR 115, vI a1, vU, vU]) (st' := []) (g' := q8.2) k80_18 rfl rfl ?_
    refine q_s (pc' := 20) (ls' := [vR 115, vI a1, vU, vU]) (st' := [vI (-1)]) (g' := q8.2) k80_19 rfl rfl ?_
    exact q_e k80_20 rfl rfl rfl
set_option maxHeartbeats 4000000 in
theorem jRg_toldConstant_eq (L : Nat) (a0 : Int) (g : AMem) : jRg_toldConstant L a0 g = some (iw ((-1) - a0), g) := by
  unfold jRg_toldConstant
  refine q_s (pc' := 1) (ls' := [vI a0]) (st' := [vI (-1)]) (g' := g) k81_0 rfl rfl ?_
  refine q_s (pc' := 2) (ls' := [vI a0]) (st' := [vI a0, vI (-1)]) (g' := g) k81_1 rfl rfl ?_
  refine q_s (pc' := 3) (ls' := [vI a0]) (st' := [vI (iw ((-1) - a0))]) (g' := g) k81_2 rfl rfl ?_
  exact q_e k81_3 rfl rfl rfl
set_option maxHeartbeats 4000000 in
theorem jRe_readConstant_eq (L : Nat) (g : AMem) : jRe_readConstant L g = (jTe_at L ((up g 115 2 (iw ((g 115 2) + 1))) 115 2) (up g 115 2 (iw ((g 115 2) + 1)))).bind (fun q1 => (jRe_isFigure L q1.1 q1.2).bind (fun q2 => if q2.1 = 0 then (some (1000, q2.2)) else ((jRe_readNumber L q2.2).bind (fun q4 => (jRg_toldConstant L q4.1 q4.2).bind (fun q5 => some (q5.1, q5.2)))))) := by
  unfold jRe_readConstant
  refine q_s (pc' := 1) (ls' := [vR 115]) (st' := [vR 115]) (g' := g) k82_0 rfl rfl ?_
  refine q_s (pc' := 2) (ls' := [vR 115]) (st' := [vR 115, vR 115]) (g' := g) k82_1 rfl rfl ?_
  refine q_getI (w := 2) (pc' := 5) k82_2 rfl rfl rfl rfl ?_
  refine q_s (pc' := 6) (ls' := [vR 115]) (st' := [vI 1, vI (g 115 2), vR 115]) (g' := g) k82_5 rfl rfl ?_
  refine q_s (pc' := 7) (ls' := [vR 115]) (st' := [vI (iw ((g 115 2) + 1)), vR 115]) (g' := g) k82_6 rfl rfl ?_
  refine q_putI (w := 2) (pc' := 10) k82_7 rfl rfl rfl rfl ?_
  refine q_s (pc' := 11) (ls' := [vR 115]) (st' := [vR 115]) (g' := up g 115 2 (iw ((g 115 2) + 1))) k82_10 rfl rfl ?_
  refine q_getF (r := 113) (pc' := 14) k82_11 rfl rfl rfl rfl ?_
  refine q_s (pc' := 15) (ls' := [vR 115]) (st' := [vR 115, vR 113]) (g' := up g 115 2 (iw ((g 115 2) + 1))) k82_14 rfl rfl ?_
  refine q_getI (w := 2) (pc' := 18) k82_15 rfl rfl rfl rfl ?_
  refine q_callI (ls0 := [vR 113, vI ((up g 115 2 (iw ((g 115 2) + 1))) 115 2)]) (rest := []) (pc' := 21) rfl k82_18 rfl (hy4 rfl rfl rfl rfl) rfl rfl hq_71 rfl (fun q1 => ?_)
  refine q_callI (ls0 := [vI q1.1]) (rest := []) (pc' := 24) rfl k82_21 rfl (hy4 rfl rfl rfl rfl) rfl rfl hq_74 rfl (fun q2 => ?_)
  refine q_if (P := q2.1 = 0) (t := 37) (pc' := 27) k82_24 Iff.rfl rfl rfl (fun h3 => ?_) (fun h3 => ?_)
  · refine q_s (pc' := 40) (ls' := [vR 115]) (st' := [vI 1000]) (g' := q2.2) k82_37 rfl rfl ?_
    exact q_e k82_40 rfl rfl rfl
  · refine q_s (pc' := 28) (ls' := [vR 115]) (st' := [vR 115]) (g' := q2.2) k82_27 rfl rfl ?_
    refine q_callI (ls0 := [vR 115, vU, vU]) (rest := []) (pc' := 31) rfl k82_28 rfl (hy4 rfl rfl rfl rfl) rfl rfl hq_75 rfl (fun q4 => ?_)
    refine q_callI (ls0 := [vI q4.1]) (rest := []) (pc' := 34) rfl k82_31 rfl (hy4 rfl rfl rfl rfl) rfl rfl hq_81 rfl (fun q5 => ?_)
    refine q_s (pc' := 40) (ls' := [vR 115]) (st' := [vI q5.1]) (g' := q5.2) k82_34 rfl rfl ?_
    exact q_e k82_40 rfl rfl rfl
set_option maxHeartbeats 4000000 in
theorem jRe_readRegion_eq (L : Nat) (g : AMem) : jRe_readRegion L g = (jTe_at L (g 115 2) g).bind (fun q1 => (jRe_isFigure L q1.1 q1.2).bind (fun q2 => if q2.1 = 0 then (some (1000, q2.2)) else ((jRe_readNumber L q2.2).bind (fun q4 => some (q4.1, q4.2))))) := by
  unfold jRe_readRegion
  refine q_s (pc' := 1) (ls' := [vR 115]) (st' := [vR 115]) (g' := g) k83_0 rfl rfl ?_
  refine q_getF (r := 113) (pc' := 4) k83_1 rfl rfl rfl rfl ?_
  refine q_s (pc' := 5) (ls' := [vR 115]) (st' := [vR 115, vR 113]) (g' := g) k83_4 rfl rfl ?_
  refine q_getI (w := 2) (pc' := 8) k83_5 rfl rfl rfl rfl ?_
  refine q_callI (ls0 := [vR 113, vI (g 115 2)]) (rest := []) (pc' := 11) rfl k83_8 rfl (hy4 rfl rfl rfl rfl) rfl rfl hq_71 rfl (fun q1 => ?_)
  refine q_callI (ls0 := [vI q1.1]) (rest := []) (pc' := 14) rfl k83_11 rfl (hy4 rfl rfl rfl rfl) rfl rfl hq_74 rfl (fun q2 => ?_)
  refine q_if (P := q2.1 = 0) (t := 24) (pc' := 17) k83_14 Iff.rfl rfl rfl (fun h3 => ?_) (fun h3 => ?_)
  · refine q_s (pc' := 27) (ls' := [vR 115]) (st' := [vI 1000]) (g' := q2.2) k83_24 rfl rfl ?_
    exact q_e k83_27 rfl rfl rfl
  · refine q_s (pc' := 18) (ls' := [vR 115]) (st' := [vR 115]) (g' := q2.2) k83_17 rfl rfl ?_
    refine q_callI (ls0 := [vR 115, vU, vU]) (rest := []) (pc' := 21) rfl k83_18 rfl (hy4 rfl rfl rfl rfl) rfl rfl hq_75 rfl (fun q4 => ?_)
    refine q_s (pc' := 27) (ls' := [vR 115]) (st' := [vI q4.1]) (g' := q4.2) k83_21 rfl rfl ?_
    exact q_e k83_27 rfl rfl rfl
set_option maxHeartbeats 4000000 in
theorem jRg_isConstant_eq (L : Nat) (a0 : Int) (g : AMem) : jRg_isConstant L a0 g = (jX_isBelow L (iw ((-1) - a0)) 100 g).bind (fun q1 => if q1.1 = 0 ∨ q1.1 = 1 then some (q1.1, q1.2) else none) := by
  unfold jRg_isConstant
  refine q_s (pc' := 1) (ls' := [vI a0]) (st' := [vI (-1)]) (g' := g) k84_0 rfl rfl ?_
  refine q_s (pc' := 2) (ls' := [vI a0]) (st' := [vI a0, vI (-1)]) (g' := g) k84_1 rfl rfl ?_
  refine q_s (pc' := 3) (ls' := [vI a0]) (st' := [vI (iw ((-1) - a0))]) (g' := g) k84_2 rfl rfl ?_
  refine q_s (pc' := 5) (ls' := [vI a0]) (st' := [vI 100, vI (iw ((-1) - a0))]) (g' := g) k84_3 rfl rfl ?_
  refine q_callI (ls0 := [vI (iw ((-1) - a0)), vI 100]) (rest := []) (pc' := 8) rfl k84_5 rfl (hy4 rfl rfl rfl rfl) rfl rfl hq_13 rfl (fun q1 => ?_)
  exact q_eb rfl k84_8 rfl rfl
set_option maxHeartbeats 4000000 in
theorem jRg_isAsWide_eq (L : Nat) (a0 : Int) (a1 : Int) (g : AMem) : jRg_isAsWide L a0 a1 g = (jRg_isRegion L a0 g).bind (fun q1 => if q1.1 = 0 then (some (0, q1.2)) else ((jRg_width L a0 q1.2).bind (fun q3 => (jRg_width L a1 q3.2).bind (fun q4 => if q3.1 ≠ q4.1 then (some (0, q4.2)) else (some (1, q4.2)))))) := by
  unfold jRg_isAsWide
  refine q_s (pc' := 1) (ls' := [vI a0, vI a1]) (st' := [vI a0]) (g' := g) k85_0 rfl rfl ?_
  refine q_callI (ls0 := [vI a0, vU, vU]) (rest := []) (pc' := 4) rfl k85_1 rfl (hy4 rfl rfl rfl rfl) rfl rfl hq_77 rfl (fun q1 => ?_)
  refine q_if (P := q1.1 = 0) (t := 22) (pc' := 7) k85_4 Iff.rfl rfl rfl (fun h2 => ?_) (fun h2 => ?_)
  · refine q_s (pc' := 23) (ls' := [vI a0, vI a1]) (st' := [vI 0]) (g' := q1.2) k85_22 rfl rfl ?_
    exact q_e k85_23 rfl rfl rfl
  · refine q_s (pc' := 8) (ls' := [vI a0, vI a1]) (st' := [vI a0]) (g' := q1.2) k85_7 rfl rfl ?_
    refine q_callI (ls0 := [vI a0]) (rest := []) (pc' := 11) rfl k85_8 rfl (hy4 rfl rfl rfl rfl) rfl rfl hq_2 rfl (fun q3 => ?_)
    refine q_s (pc' := 12) (ls' := [vI a0, vI a1]) (st' := [vI a1, vI q3.1]) (g' := q3.2) k85_11 rfl rfl ?_
    refine q_callI (ls0 := [vI a1]) (rest := [vI q3.1]) (pc' := 15) rfl k85_12 rfl (hy4 rfl rfl rfl rfl) rfl rfl hq_2 rfl (fun q4 => ?_)
    refine q_ic (P := q3.1 ≠ q4.1) (t := 22) (pc' := 18) k85_15 Iff.rfl rfl rfl (fun h5 => ?_) (fun h5 => ?_)
    · refine q_s (pc' := 23) (ls' := [vI a0, vI a1]) (st' := [vI 0]) (g' := q4.2) k85_22 rfl rfl ?_
      exact q_e k85_23 rfl rfl rfl
    · refine q_s (pc' := 19) (ls' := [vI a0, vI a1]) (st' := [vI 1]) (g' := q4.2) k85_18 rfl rfl ?_
      refine q_s (pc' := 23) (ls' := [vI a0, vI a1]) (st' := [vI 1]) (g' := q4.2) k85_19 rfl rfl ?_
      exact q_e k85_23 rfl rfl rfl
set_option maxHeartbeats 4000000 in
theorem jRe_readArguments_eq (L : Nat) (t1 : Int) (t2 : Int) (g : AMem) (ht1 : kin (SH L) t1 = 0) (ht2 : kin (SH L) t2 = 2) : jRe_readArguments L t1 t2 g = jRe_readArguments_2 L t1 t2 0 vU vU vU g := by
  unfold jRe_readArguments
  refine q_s (pc' := 1) (ls' := [vR 115, vR t1, vR t2, vU, vU, vU, vU]) (st' := [vI 0]) (g' := g) k86_0 rfl rfl ?_
  refine q_s (pc' := 2) (ls' := [vR 115, vR t1, vR t2, vI 0, vU, vU, vU]) (st' := []) (g' := g) k86_1 rfl rfl ?_
  rfl
set_option maxHeartbeats 4000000 in
theorem jRe_readArguments_2_eq (L : Nat) (t1 : Int) (t2 : Int) (l3 : Int) (w4 : AVal) (w5 : AVal) (w6 : AVal) (g : AMem) (ht1 : kin (SH L) t1 = 0) (ht2 : kin (SH L) t2 = 2) : jRe_readArguments_2 L t1 t2 l3 w4 w5 w6 g = if g t1 1 ≤ l3 then (some (1, g)) else ((jRe_nextByte L g).bind (fun q2 => if q2.1 ≠ 35 then ((jRe_readRegion L q2.2).bind (fun q4 => (jRg_isConstant L q4.1 q4.2).bind (fun q5 => if q5.1 ≠ 0 then (if 0 ≤ l3 ∧ l3 < 6 then (jRe_readArguments_2 L t1 t2 (iw (l3 + 1)) (vI 0) (vI (q2.2 115 2)) (vI q4.1) (up q5.2 (t2 + 1) l3 q4.1)) else none) else (if 0 ≤ l3 ∧ l3 < 6 then ((jRg_isAsWide L q4.1 (q5.2 (t1 + 1) l3) q5.2).bind (fun q9 => if q9.1 ≠ 0 then (if 0 ≤ l3 ∧ l3 < 6 then (jRe_readArguments_2 L t1 t2 (iw (l3 + 1)) (vI 0) (vI (q2.2 115 2)) (vI q4.1) (up q9.2 (t2 + 1) l3 q4.1)) else none) else ((jRe_failAt L (q2.2 115 2) q9.2).bind (fun q12 => if q12.1 = 0 ∨ q12.1 = 1 then some (q12.1, q12.2) else none)))) else none)))) else ((jRe_readConstant L q2.2).bind (fun q13 => (jRg_isConstant L q13.1 q13.2).bind (fun q14 => if q14.1 ≠ 0 then (if 0 ≤ l3 ∧ l3 < 6 then (jRe_readArguments_2 L t1 t2 (iw (l3 + 1)) (vI 1) (vI (q2.2 115 2)) (vI q13.1) (up q14.2 (t2 + 1) l3 q13.1)) else none) else (if 0 ≤ l3 ∧ l3 < 6 then ((jRg_isAsWide L q13.1 (q14.2 (t1 + 1) l3) q14.2).bind (fun q18 => if q18.1 ≠ 0 then (if 0 ≤ l3 ∧ l3 < 6 then (jRe_readArguments_2 L t1 t2 (iw (l3 + 1)) (vI 1) (vI (q2.2 115 2)) (vI q13.1) (up q18.2 (t2 + 1) l3 q13.1)) else none) else ((jRe_failAt L (q2.2 115 2) q18.2).bind (fun q21 => if q21.1 = 0 ∨ q21.1 = 1 then some (q21.1, q21.2) else none)))) else none)))))) := by
  unfold jRe_readArguments_2
  refine q_s (pc' := 3) (ls' := [vR 115, vR t1, vR t2, vI l3, w4, w5, w6]) (st' := [vI l3]) (g' := g) k86_2 rfl rfl ?_
  refine q_ldR_n (pc' := 4) k86_3 rfl rfl (by have := (k2 ht1 (by decide)); omega) ?_
  refine q_getI (w := 1) (pc' := 7) k86_4 ht1 rfl rfl rfl ?_
  refine q_ic (P := g t1 1 ≤ l3) (t := 93) (pc' := 10) k86_7 Iff.rfl rfl rfl (fun h1 => ?_) (fun h1 => ?_)
  · refine q_s (pc' := 94) (ls' := [vR 115, vR t1, vR t2, vI l3, w4, w5, w6]) (st' := [vI 1]) (g' := g) k86_93 rfl rfl ?_
    exact q_e k86_94 rfl rfl rfl
  · refine q_s (pc' := 11) (ls' := [vR 115, vR t1, vR t2, vI l3, w4, w5, w6]) (st' := [vR 115]) (g' := g) k86_10 rfl rfl ?_
    refine q_callI (ls0 := [vR 115]) (rest := []) (pc' := 14) rfl k86_11 rfl (hy4 rfl rfl rfl rfl) rfl rfl hq_72 rfl (fun q2 => ?_)
    refine q_s (pc' := 16) (ls' := [vR 115, vR t1, vR t2, vI l3, w4, w5, w6]) (st' := [vI 35, vI q2.1]) (g' := q2.2) k86_14 rfl rfl ?_
    refine q_ic (P := q2.1 ≠ 35) (t := 23) (pc' := 19) k86_16 Iff.rfl rfl rfl (fun h3 => ?_) (fun h3 => ?_)
    · refine q_s (pc' := 24) (ls' := [vR 115, vR t1, vR t2, vI l3, w4, w5, w6]) (st' := [vI 0]) (g' := q2.2) k86_23 rfl rfl ?_
      refine q_s (pc' := 26) (ls' := [vR 115, vR t1, vR t2, vI l3, vI 0, w5, w6]) (st' := []) (g' := q2.2) k86_24 rfl rfl ?_
      refine q_s (pc' := 27) (ls' := [vR 115, vR t1, vR t2, vI l3, vI 0, w5, w6]) (st' := [vR 115]) (g' := q2.2) k86_26 rfl rfl ?_
      refine q_getI (w := 2) (pc' := 30) k86_27 rfl rfl rfl rfl ?_
      refine q_s (pc' := 32) (ls' := [vR 115, vR t1, vR t2, vI l3, vI 0, vI (q2.2 115 2), w6]) (st' := []) (g' := q2.2) k86_30 rfl rfl ?_
      refine q_s (pc' := 34) (ls' := [vR 115, vR t1, vR t2, vI l3, vI 0, vI (q2.2 115 2), w6]) (st' := [vI 0]) (g' := q2.2) k86_32 rfl rfl ?_
      refine q_s (pc' := 44) (ls' := [vR 115, vR t1, vR t2, vI l3, vI 0, vI (q2.2 115 2), w6]) (st' := []) (g' := q2.2) k86_34 rfl rfl ?_
      refine q_s (pc' := 45) (ls' := [vR 115, vR t1, vR t2, vI l3, vI 0, vI (q2.2 115 2), w6]) (st' := [vR 115]) (g' := q2.2) k86_44 rfl rfl ?_
      refine q_callI (ls0 := [vR 115]) (rest := []) (pc' := 48) rfl k86_45 rfl (hy4 rfl rfl rfl rfl) rfl rfl hq_83 rfl (fun q4 => ?_)
      refine q_s (pc' := 50) (ls' := [vR 115, vR t1, vR t2, vI l3, vI 0, vI (q2.2 115 2), vI q4.1]) (st' := []) (g' := q4.2) k86_48 rfl rfl ?_
      refine q_s (pc' := 52) (ls' := [vR 115, vR t1, vR t2, vI l3, vI 0, vI (q2.2 115 2), vI q4.1]) (st' := [vI q4.1]) (g' := q4.2) k86_50 rfl rfl ?_
      refine q_callI (ls0 := [vI q4.1]) (rest := []) (pc' := 55) rfl k86_52 rfl (hy4 rfl rfl rfl rfl) rfl rfl hq_84 rfl (fun q5 => ?_)
      refine q_if (P := q5.1 ≠ 0) (t := 79) (pc' := 58) k86_55 Iff.rfl rfl rfl (fun h6 => ?_) (fun h6 => ?_)
      · refine q_ldR_n (pc' := 80) k86_79 rfl rfl (by have := (k2 ht2 (by decide)); omega) ?_
        refine q_getF (r := t2 + 1) (pc' := 83) k86_80 ht2 rfl (kE ht2).1 rfl ?_
        refine q_s (pc' := 84) (ls' := [vR 115, vR t1, vR t2, vI l3, vI 0, vI (q2.2 115 2), vI q4.1]) (st' := [vI l3, vR (t2 + 1)]) (g' := q5.2) k86_83 rfl rfl ?_
        refine q_s (pc' := 86) (ls' := [vR 115, vR t1, vR t2, vI l3, vI 0, vI (q2.2 115 2), vI q4.1]) (st' := [vI q4.1, vI l3, vR (t2 + 1)]) (g' := q5.2) k86_84 rfl rfl ?_
        refine q_iast (n := 6) (pc' := 87) rfl k86_86 (kE ht2).2 (by have := k2 ht2 (by decide); omega) rfl (fun h7 => ?_)
        refine q_s (pc' := 90) (ls' := [vR 115, vR t1, vR t2, vI (iw (l3 + 1)), vI 0, vI (q2.2 115 2), vI q4.1]) (st' := []) (g' := up q5.2 (t2 + 1) l3 q4.1) k86_87 rfl rfl ?_
        refine q_s (pc' := 2) (ls' := [vR 115, vR t1, vR t2, vI (iw (l3 + 1)), vI 0, vI (q2.2 115 2), vI q4.1]) (st' := []) (g' := up q5.2 (t2 + 1) l3 q4.1) k86_90 rfl rfl ?_
        rfl
      · refine q_s (pc' := 60) (ls' := [vR 115, vR t1, vR t2, vI l3, vI 0, vI (q2.2 115 2), vI q4.1]) (st' := [vI q4.1]) (g' := q5.2) k86_58 rfl rfl ?_
        refine q_ldR_n (pc' := 61) k86_60 rfl rfl (by have := (k2 ht1 (by decide)); omega) ?_
        refine q_getF (r := t1 + 1) (pc' := 64) k86_61 ht1 rfl (kB ht1).1 rfl ?_
        refine q_s (pc' := 65) (ls' := [vR 115, vR t1, vR t2, vI l3, vI 0, vI (q2.2 115 2), vI q4.1]) (st' := [vI l3, vR (t1 + 1), vI q4.1]) (g' := q5.2) k86_64 rfl rfl ?_
        refine q_iald (n := 6) (pc' := 66) rfl k86_65 (kB ht1).2 rfl (fun h8 => ?_)
        refine q_callI (ls0 := [vI q4.1, vI (q5.2 (t1 + 1) l3)]) (rest := []) (pc' := 69) rfl k86_66 rfl (hy4 rfl rfl rfl rfl) rfl rfl hq_85 rfl (fun q9 => ?_)
        refine q_if (P := q9.1 ≠ 0) (t := 79) (pc' := 72) k86_69 Iff.rfl rfl rfl (fun h10 => ?_) (fun h10 => ?_)
        · refine q_ldR_n (pc' := 80) k86_79 rfl rfl (by have := (k2 ht2 (by decide)); omega) ?_
          refine q_getF (r := t2 + 1) (pc' := 83) k86_80 ht2 rfl (kE ht2).1 rfl ?_
          refine q_s (pc' := 84) (ls' := [vR 115, vR t1, vR t2, vI l3, vI 0, vI (q2.2 115 2), vI q4.1]) (st' := [vI l3, vR (t2 + 1)]) (g' := q9.2) k86_83 rfl rfl ?_
          refine q_s (pc' := 86) (ls' := [vR 115, vR t1, vR t2, vI l3, vI 0, vI (q2.2 115 2), vI q4.1]) (st' := [vI q4.1, vI l3, vR (t2 + 1)]) (g' := q9.2) k86_84 rfl rfl ?_
          refine q_iast (n := 6) (pc' := 87) rfl k86_86 (kE ht2).2 (by have := k2 ht2 (by decide); omega) rfl (fun h11 => ?_)
          refine q_s (pc' := 90) (ls' := [vR 115, vR t1, vR t2, vI (iw (l3 + 1)), vI 0, vI (q2.2 115 2), vI q4.1]) (st' := []) (g' := up q9.2 (t2 + 1) l3 q4.1) k86_87 rfl rfl ?_
          refine q_s (pc' := 2) (ls' := [vR 115, vR t1, vR t2, vI (iw (l3 + 1)), vI 0, vI (q2.2 115 2), vI q4.1]) (st' := []) (g' := up q9.2 (t2 + 1) l3 q4.1) k86_90 rfl rfl ?_
          rfl
        · refine q_s (pc' := 73) (ls' := [vR 115, vR t1, vR t2, vI l3, vI 0, vI (q2.2 115 2), vI q4.1]) (st' := [vR 115]) (g' := q9.2) k86_72 rfl rfl ?_
          refine q_s (pc' := 75) (ls' := [vR 115, vR t1, vR t2, vI l3, vI 0, vI (q2.2 115 2), vI q4.1]) (st' := [vI (q2.2 115 2), vR 115]) (g' := q9.2) k86_73 rfl rfl ?_
          refine q_callI (ls0 := [vR 115, vI (q2.2 115 2)]) (rest := []) (pc' := 78) rfl k86_75 rfl (hy4 rfl rfl rfl rfl) rfl rfl hq_73 rfl (fun q12 => ?_)
          exact q_eb rfl k86_78 rfl rfl
    · refine q_s (pc' := 20) (ls' := [vR 115, vR t1, vR t2, vI l3, w4, w5, w6]) (st' := [vI 1]) (g' := q2.2) k86_19 rfl rfl ?_
      refine q_s (pc' := 24) (ls' := [vR 115, vR t1, vR t2, vI l3, w4, w5, w6]) (st' := [vI 1]) (g' := q2.2) k86_20 rfl rfl ?_
      refine q_s (pc' := 26) (ls' := [vR 115, vR t1, vR t2, vI l3, vI 1, w5, w6]) (st' := []) (g' := q2.2) k86_24 rfl rfl ?_
      refine q_s (pc' := 27) (ls' := [vR 115, vR t1, vR t2, vI l3, vI 1, w5, w6]) (st' := [vR 115]) (g' := q2.2) k86_26 rfl rfl ?_
      refine q_getI (w := 2) (pc' := 30) k86_27 rfl rfl rfl rfl ?_
      refine q_s (pc' := 32) (ls' := [vR 115, vR t1, vR t2, vI l3, vI 1, vI (q2.2 115 2), w6]) (st' := []) (g' := q2.2) k86_30 rfl rfl ?_
      refine q_s (pc' := 34) (ls' := [vR 115, vR t1, vR t2, vI l3, vI 1, vI (q2.2 115 2), w6]) (st' := [vI 1]) (g' := q2.2) k86_32 rfl rfl ?_
      refine q_s (pc' := 37) (ls' := [vR 115, vR t1, vR t2, vI l3, vI 1, vI (q2.2 115 2), w6]) (st' := []) (g' := q2.2) k86_34 rfl rfl ?_
      refine q_s (pc' := 38) (ls' := [vR 115, vR t1, vR t2, vI l3, vI 1, vI (q2.2 115 2), w6]) (st' := [vR 115]) (g' := q2.2) k86_37 rfl rfl ?_
      refine q_callI (ls0 := [vR 115]) (rest := []) (pc' := 41) rfl k86_38 rfl (hy4 rfl rfl rfl rfl) rfl rfl hq_82 rfl (fun q13 => ?_)
      refine q_s (pc' := 48) (ls' := [vR 115, vR t1, vR t2, vI l3, vI 1, vI (q2.2 115 2), w6]) (st' := [vI q13.1]) (g' := q13.2) k86_41 rfl rfl ?_
      refine q_s (pc' := 50) (ls' := [vR 115, vR t1, vR t2, vI l3, vI 1, vI (q2.2 115 2), vI q13.1]) (st' := []) (g' := q13.2) k86_48 rfl rfl ?_
      refine q_s (pc' := 52) (ls' := [vR 115, vR t1, vR t2, vI l3, vI 1, vI (q2.2 115 2), vI q13.1]) (st' := [vI q13.1]) (g' := q13.2) k86_50 rfl rfl ?_
      refine q_callI (ls0 := [vI q13.1]) (rest := []) (pc' := 55) rfl k86_52 rfl (hy4 rfl rfl rfl rfl) rfl rfl hq_84 rfl (fun q14 => ?_)
      refine q_if (P := q14.1 ≠ 0) (t := 79) (pc' := 58) k86_55 Iff.rfl rfl rfl (fun h15 => ?_) (fun h15 => ?_)
      · refine q_ldR_n (pc' := 80) k86_79 rfl rfl (by have := (k2 ht2 (by decide)); omega) ?_
        refine q_getF (r := t2 + 1) (pc' := 83) k86_80 ht2 rfl (kE ht2).1 rfl ?_
        refine q_s (pc' := 84) (ls' := [vR 115, vR t1, vR t2, vI l3, vI 1, vI (q2.2 115 2), vI q13.1]) (st' := [vI l3, vR (t2 + 1)]) (g' := q14.2) k86_83 rfl rfl ?_
        refine q_s (pc' := 86) (ls' := [vR 115, vR t1, vR t2, vI l3, vI 1, vI (q2.2 115 2), vI q13.1]) (st' := [vI q13.1, vI l3, vR (t2 + 1)]) (g' := q14.2) k86_84 rfl rfl ?_
        refine q_iast (n := 6) (pc' := 87) rfl k86_86 (kE ht2).2 (by have := k2 ht2 (by decide); omega) rfl (fun h16 => ?_)
        refine q_s (pc' := 90) (ls' := [vR 115, vR t1, vR t2, vI (iw (l3 + 1)), vI 1, vI (q2.2 115 2), vI q13.1]) (st' := []) (g' := up q14.2 (t2 + 1) l3 q13.1) k86_87 rfl rfl ?_
        refine q_s (pc' := 2) (ls' := [vR 115, vR t1, vR t2, vI (iw (l3 + 1)), vI 1, vI (q2.2 115 2), vI q13.1]) (st' := []) (g' := up q14.2 (t2 + 1) l3 q13.1) k86_90 rfl rfl ?_
        rfl
      · refine q_s (pc' := 60) (ls' := [vR 115, vR t1, vR t2, vI l3, vI 1, vI (q2.2 115 2), vI q13.1]) (st' := [vI q13.1]) (g' := q14.2) k86_58 rfl rfl ?_
        refine q_ldR_n (pc' := 61) k86_60 rfl rfl (by have := (k2 ht1 (by decide)); omega) ?_
        refine q_getF (r := t1 + 1) (pc' := 64) k86_61 ht1 rfl (kB ht1).1 rfl ?_
        refine q_s (pc' := 65) (ls' := [vR 115, vR t1, vR t2, vI l3, vI 1, vI (q2.2 115 2), vI q13.1]) (st' := [vI l3, vR (t1 + 1), vI q13.1]) (g' := q14.2) k86_64 rfl rfl ?_
        refine q_iald (n := 6) (pc' := 66) rfl k86_65 (kB ht1).2 rfl (fun h17 => ?_)
        refine q_callI (ls0 := [vI q13.1, vI (q14.2 (t1 + 1) l3)]) (rest := []) (pc' := 69) rfl k86_66 rfl (hy4 rfl rfl rfl rfl) rfl rfl hq_85 rfl (fun q18 => ?_)
        refine q_if (P := q18.1 ≠ 0) (t := 79) (pc' := 72) k86_69 Iff.rfl rfl rfl (fun h19 => ?_) (fun h19 => ?_)
        · refine q_ldR_n (pc' := 80) k86_79 rfl rfl (by have := (k2 ht2 (by decide)); omega) ?_
          refine q_getF (r := t2 + 1) (pc' := 83) k86_80 ht2 rfl (kE ht2).1 rfl ?_
          refine q_s (pc' := 84) (ls' := [vR 115, vR t1, vR t2, vI l3, vI 1, vI (q2.2 115 2), vI q13.1]) (st' := [vI l3, vR (t2 + 1)]) (g' := q18.2) k86_83 rfl rfl ?_
          refine q_s (pc' := 86) (ls' := [vR 115, vR t1, vR t2, vI l3, vI 1, vI (q2.2 115 2), vI q13.1]) (st' := [vI q13.1, vI l3, vR (t2 + 1)]) (g' := q18.2) k86_84 rfl rfl ?_
          refine q_iast (n := 6) (pc' := 87) rfl k86_86 (kE ht2).2 (by have := k2 ht2 (by decide); omega) rfl (fun h20 => ?_)
          refine q_s (pc' := 90) (ls' := [vR 115, vR t1, vR t2, vI (iw (l3 + 1)), vI 1, vI (q2.2 115 2), vI q13.1]) (st' := []) (g' := up q18.2 (t2 + 1) l3 q13.1) k86_87 rfl rfl ?_
          refine q_s (pc' := 2) (ls' := [vR 115, vR t1, vR t2, vI (iw (l3 + 1)), vI 1, vI (q2.2 115 2), vI q13.1]) (st' := []) (g' := up q18.2 (t2 + 1) l3 q13.1) k86_90 rfl rfl ?_
          rfl
        · refine q_s (pc' := 73) (ls' := [vR 115, vR t1, vR t2, vI l3, vI 1, vI (q2.2 115 2), vI q13.1]) (st' := [vR 115]) (g' := q18.2) k86_72 rfl rfl ?_
          refine q_s (pc' := 75) (ls' := [vR 115, vR t1, vR t2, vI l3, vI 1, vI (q2.2 115 2), vI q13.1]) (st' := [vI (q2.2 115 2), vR 115]) (g' := q18.2) k86_73 rfl rfl ?_
          refine q_callI (ls0 := [vR 115, vI (q2.2 115 2)]) (rest := []) (pc' := 78) rfl k86_75 rfl (hy4 rfl rfl rfl rfl) rfl rfl hq_73 rfl (fun q21 => ?_)
          exact q_eb rfl k86_78 rfl rfl
set_option maxHeartbeats 4000000 in
theorem jRe_readEdge_eq (L : Nat) (g : AMem) : jRe_readEdge L g = if kin (SH L) (g 115 1) = 3 then (if g (g 115 1) 3 < 16 then (if kin (SH L) ((up g 115 2 (iw ((g 115 2) + 1))) 115 1) = 3 then ((jRe_readNumberBelow L ((up g 115 2 (iw ((g 115 2) + 1))) ((up g 115 2 (iw ((g 115 2) + 1))) 115 1) 2) (up g 115 2 (iw ((g 115 2) + 1)))).bind (fun q4 => if 0 ≤ q4.1 then (if kin (SH L) (q4.2 115 1) = 3 then ((jRe_readNumberBelow L (q4.2 (q4.2 115 1) 2) q4.2).bind (fun q7 => if 0 ≤ q7.1 then ((jRe_readNumberBelow L 100 q7.2).bind (fun q9 => if 0 ≤ q9.1 then (if kin (SH L) (q9.2 115 1) = 3 then ((jGr_addEdge L (q9.2 115 1) q4.1 q7.1 q9.1 q9.2).bind (fun q12 => if kin (SH L) (q12.2 115 1) = 3 then ((jGr_hasEdge L (q12.2 115 1) q12.1 q12.2).bind (fun q14 => if q14.1 = 0 then ((jRe_readEnd L q14.2).bind (fun q16 => if q16.1 = 0 ∨ q16.1 = 1 then some (q16.1, q16.2) else none)) else (if kin (SH L) (q14.2 115 1) = 3 then (if 0 ≤ q12.1 ∧ q12.1 < 16 then (if 0 ≤ q14.2 (q14.2 115 1 + 23 + 2 * q12.1) 2 ∧ q14.2 (q14.2 115 1 + 23 + 2 * q12.1) 2 < 10 then (if q14.2 (q14.2 115 1 + 2 + 2 * (q14.2 (q14.2 115 1 + 23 + 2 * q12.1) 2)) 1 ≤ 0 then ((jRe_readEnd L q14.2).bind (fun q22 => if q22.1 = 0 ∨ q22.1 = 1 then some (q22.1, q22.2) else none)) else ((jRe_nextByte L q14.2).bind (fun q23 => if q23.1 ≠ 58 then ((jRe_readEnd L q23.2).bind (fun q25 => if q25.1 = 0 ∨ q25.1 = 1 then some (q25.1, q25.2) else none)) else (if kin (SH L) ((up q23.2 115 2 (iw ((q23.2 115 2) + 1))) 115 1) = 3 then (if 0 ≤ q12.1 ∧ q12.1 < 16 then (if 0 ≤ (up q23.2 115 2 (iw ((q23.2 115 2) + 1))) ((up q23.2 115 2 (iw ((q23.2 115 2) + 1))) 115 1 + 23 + 2 * q12.1) 2 ∧ (up q23.2 115 2 (iw ((q23.2 115 2) + 1))) ((up q23.2 115 2 (iw ((q23.2 115 2) + 1))) 115 1 + 23 + 2 * q12.1) 2 < 10 then (if kin (SH L) ((up q23.2 115 2 (iw ((q23.2 115 2) + 1))) 115 1) = 3 then (if 0 ≤ q12.1 ∧ q12.1 < 16 then ((jRe_readArguments L ((up q23.2 115 2 (iw ((q23.2 115 2) + 1))) 115 1 + 2 + 2 * ((up q23.2 115 2 (iw ((q23.2 115 2) + 1))) ((up q23.2 115 2 (iw ((q23.2 115 2) + 1))) 115 1 + 23 + 2 * q12.1) 2)) ((up q23.2 115 2 (iw ((q23.2 115 2) + 1))) 115 1 + 23 + 2 * q12.1) (up q23.2 115 2 (iw ((q23.2 115 2) + 1)))).bind (fun q32 => if q32.1 ≠ 0 then ((jRe_readEnd L q32.2).bind (fun q34 => if q34.1 = 0 ∨ q34.1 = 1 then some (q34.1, q34.2) else none)) else (some (0, q32.2)))) else none) else none) else none) else none) else none)))) else none) else none) else none))) else none)) else none) else (some (0, q9.2)))) else (some (0, q7.2)))) else none) else (some (0, q4.2)))) else none) else ((jRe_failAt L (g 115 2) g).bind (fun q35 => if q35.1 = 0 ∨ q35.1 = 1 then some (q35.1, q35.2) else none))) else none := by
  unfold jRe_readEdge
  refine q_s (pc' := 1) (ls' := [vR 115, vU, vU, vU, vU]) (st' := [vR 115]) (g' := g) k87_0 rfl rfl ?_
  refine q_getM (w := 1) (c := 3) (pc' := 4) rfl k87_1 rfl rfl rfl rfl rfl (fun h1 => ?_)
  refine q_getI (w := 3) (pc' := 7) k87_4 h1 rfl rfl rfl ?_
  refine q_s (pc' := 9) (ls' := [vR 115, vU, vU, vU, vU]) (st' := [vI 16, vI (g (g 115 1) 3)]) (g' := g) k87_7 rfl rfl ?_
  refine q_ic (P := g (g 115 1) 3 < 16) (t := 21) (pc' := 12) k87_9 Iff.rfl rfl rfl (fun h2 => ?_) (fun h2 => ?_)
  · refine q_s (pc' := 22) (ls' := [vR 115, vU, vU, vU, vU]) (st' := [vR 115]) (g' := g) k87_21 rfl rfl ?_
    refine q_s (pc' := 23) (ls' := [vR 115, vU, vU, vU, vU]) (st' := [vR 115, vR 115]) (g' := g) k87_22 rfl rfl ?_
    refine q_getI (w := 2) (pc' := 26) k87_23 rfl rfl rfl rfl ?_
    refine q_s (pc' := 27) (ls' := [vR 115, vU, vU, vU, vU]) (st' := [vI 1, vI (g 115 2), vR 115]) (g' := g) k87_26 rfl rfl ?_
    refine q_s (pc' := 28) (ls' := [vR 115, vU, vU, vU, vU]) (st' := [vI (iw ((g 115 2) + 1)), vR 115]) (g' := g) k87_27 rfl rfl ?_
    refine q_putI (w := 2) (pc' := 31) k87_28 rfl rfl rfl rfl ?_
    refine q_s (pc' := 32) (ls' := [vR 115, vU, vU, vU, vU]) (st' := [vR 115]) (g' := up g 115 2 (iw ((g 115 2) + 1))) k87_31 rfl rfl ?_
    refine q_s (pc' := 33) (ls' := [vR 115, vU, vU, vU, vU]) (st' := [vR 115, vR 115]) (g' := up g 115 2 (iw ((g 115 2) + 1))) k87_32 rfl rfl ?_
    refine q_getM (w := 1) (c := 3) (pc' := 36) rfl k87_33 rfl rfl rfl rfl rfl (fun h3 => ?_)
    refine q_getI (w := 2) (pc' := 39) k87_36 h3 rfl rfl rfl ?_
    refine q_callI (ls0 := [vR 115, vI ((up g 115 2 (iw ((g 115 2) + 1))) ((up g 115 2 (iw ((g 115 2) + 1))) 115 1) 2), vU, vU]) (rest := []) (pc' := 42) rfl k87_39 rfl (hy4 rfl rfl rfl rfl) rfl rfl hq_80 rfl (fun q4 => ?_)
    refine q_s (pc' := 43) (ls' := [vR 115, vI q4.1, vU, vU, vU]) (st' := []) (g' := q4.2) k87_42 rfl rfl ?_
    refine q_s (pc' := 44) (ls' := [vR 115, vI q4.1, vU, vU, vU]) (st' := [vI q4.1]) (g' := q4.2) k87_43 rfl rfl ?_
    refine q_if (P := 0 ≤ q4.1) (t := 51) (pc' := 47) k87_44 Iff.rfl rfl rfl (fun h5 => ?_) (fun h5 => ?_)
    · refine q_s (pc' := 52) (ls' := [vR 115, vI q4.1, vU, vU, vU]) (st' := [vR 115]) (g' := q4.2) k87_51 rfl rfl ?_
      refine q_s (pc' := 53) (ls' := [vR 115, vI q4.1, vU, vU, vU]) (st' := [vR 115, vR 115]) (g' := q4.2) k87_52 rfl rfl ?_
      refine q_getM (w := 1) (c := 3) (pc' := 56) rfl k87_53 rfl rfl rfl rfl rfl (fun h6 => ?_)
      refine q_getI (w := 2) (pc' := 59) k87_56 h6 rfl rfl rfl ?_
      refine q_callI (ls0 := [vR 115, vI (q4.2 (q4.2 115 1) 2), vU, vU]) (rest := []) (pc' := 62) rfl k87_59 rfl (hy4 rfl rfl rfl rfl) rfl rfl hq_80 rfl (fun q7 => ?_)
      refine q_s (pc' := 63) (ls' := [vR 115, vI q4.1, vI q7.1, vU, vU]) (st' := []) (g' := q7.2) k87_62 rfl rfl ?_
      refine q_s (pc' := 64) (ls' := [vR 115, vI q4.1, vI q7.1, vU, vU]) (st' := [vI q7.1]) (g' := q7.2) k87_63 rfl rfl ?_
      refine q_if (P := 0 ≤ q7.1) (t := 71) (pc' := 67) k87_64 Iff.rfl rfl rfl (fun h8 => ?_) (fun h8 => ?_)
      · refine q_s (pc' := 72) (ls' := [vR 115, vI q4.1, vI q7.1, vU, vU]) (st' := [vR 115]) (g' := q7.2) k87_71 rfl rfl ?_
        refine q_s (pc' := 74) (ls' := [vR 115, vI q4.1, vI q7.1, vU, vU]) (st' := [vI 100, vR 115]) (g' := q7.2) k87_72 rfl rfl ?_
        refine q_callI (ls0 := [vR 115, vI 100, vU, vU]) (rest := []) (pc' := 77) rfl k87_74 rfl (hy4 rfl rfl rfl rfl) rfl rfl hq_80 rfl (fun q9 => ?_)
        refine q_s (pc' := 78) (ls' := [vR 115, vI q4.1, vI q7.1, vI q9.1, vU]) (st' := []) (g' := q9.2) k87_77 rfl rfl ?_
        refine q_s (pc' := 79) (ls' := [vR 115, vI q4.1, vI q7.1, vI q9.1, vU]) (st' := [vI q9.1]) (g' := q9.2) k87_78 rfl rfl ?_
        refine q_if (P := 0 ≤ q9.1) (t := 84) (pc' := 82) k87_79 Iff.rfl rfl rfl (fun h10 => ?_) (fun h10 => ?_)
        · refine q_s (pc' := 85) (ls' := [vR 115, vI q4.1, vI q7.1, vI q9.1, vU]) (st' := [vR 115]) (g' := q9.2) k87_84 rfl rfl ?_
          refine q_getM (w := 1) (c := 3) (pc' := 88) rfl k87_85 rfl rfl rfl rfl rfl (fun h11 => ?_)
          refine q_s (pc' := 89) (ls' := [vR 115, vI q4.1, vI q7.1, vI q9.1, vU]) (st' := [vI q4.1, vR (q9.2 115 1)]) (g' := q9.2) k87_88 rfl rfl ?_
          refine q_s (pc' := 90) (ls' := [vR 115, vI q4.1, vI q7.1, vI q9.1, vU]) (st' := [vI q7.1, vI q4.1, vR (q9.2 115 1)]) (g' := q9.2) k87_89 rfl rfl ?_
          refine q_s (pc' := 91) (ls' := [vR 115, vI q4.1, vI q7.1, vI q9.1, vU]) (st' := [vI q9.1, vI q7.1, vI q4.1, vR (q9.2 115 1)]) (g' := q9.2) k87_90 rfl rfl ?_
          refine q_callI (ls0 := [vR (q9.2 115 1), vI q4.1, vI q7.1, vI q9.1, vU]) (rest := []) (pc' := 94) rfl k87_91 rfl (hy4 rfl rfl (rcv0 rfl h11) rfl) rfl rfl hq_19 rfl (fun q12 => ?_)
          refine q_s (pc' := 96) (ls' := [vR 115, vI q4.1, vI q7.1, vI q9.1, vI q12.1]) (st' := []) (g' := q12.2) k87_94 rfl rfl ?_
          refine q_s (pc' := 97) (ls' := [vR 115, vI q4.1, vI q7.1, vI q9.1, vI q12.1]) (st' := [vR 115]) (g' := q12.2) k87_96 rfl rfl ?_
          refine q_getM (w := 1) (c := 3) (pc' := 100) rfl k87_97 rfl rfl rfl rfl rfl (fun h13 => ?_)
          refine q_s (pc' := 102) (ls' := [vR 115, vI q4.1, vI q7.1, vI q9.1, vI q12.1]) (st' := [vI q12.1, vR (q12.2 115 1)]) (g' := q12.2) k87_100 rfl rfl ?_
          refine q_callI (ls0 := [vR (q12.2 115 1), vI q12.1]) (rest := []) (pc' := 105) rfl k87_102 rfl (hy4 rfl rfl (rcv0 rfl h13) rfl) rfl rfl hq_15 rfl (fun q14 => ?_)
          refine q_if (P := q14.1 = 0) (t := 170) (pc' := 108) k87_105 Iff.rfl rfl rfl (fun h15 => ?_) (fun h15 => ?_)
          · refine q_s (pc' := 171) (ls' := [vR 115, vI q4.1, vI q7.1, vI q9.1, vI q12.1]) (st' := [vR 115]) (g' := q14.2) k87_170 rfl rfl ?_
            refine q_callI (ls0 := [vR 115]) (rest := []) (pc' := 174) rfl k87_171 rfl (hy4 rfl rfl rfl rfl) rfl rfl hq_78 rfl (fun q16 => ?_)
            exact q_eb rfl k87_174 rfl rfl
          · refine q_s (pc' := 109) (ls' := [vR 115, vI q4.1, vI q7.1, vI q9.1, vI q12.1]) (st' := [vR 115]) (g' := q14.2) k87_108 rfl rfl ?_
            refine q_getM (w := 1) (c := 3) (pc' := 112) rfl k87_109 rfl rfl rfl rfl rfl (fun h17 => ?_)
            refine q_s (pc' := 114) (ls' := [vR 115, vI q4.1, vI q7.1, vI q9.1, vI q12.1]) (st' := [vI q12.1, vR (q14.2 115 1)]) (g' := q14.2) k87_112 rfl rfl ?_
            refine q_goal (t := q14.2 115 1) (e := q12.1) (pc' := 117) rfl k87_114 h17 rfl rfl (fun h19 h20 => ?_)
            refine q_getI (w := 1) (pc' := 120) k87_117 (kG_b h17 h20.1 h20.2).2 rfl rfl rfl ?_
            refine q_if (P := q14.2 (q14.2 115 1 + 2 + 2 * (q14.2 (q14.2 115 1 + 23 + 2 * q12.1) 2)) 1 ≤ 0) (t := 170) (pc' := 123) k87_120 Iff.rfl rfl rfl (fun h21 => ?_) (fun h21 => ?_)
            · refine q_s (pc' := 171) (ls' := [vR 115, vI q4.1, vI q7.1, vI q9.1, vI q12.1]) (st' := [vR 115]) (g' := q14.2) k87_170 rfl rfl ?_
              refine q_callI (ls0 := [vR 115]) (rest := []) (pc' := 174) rfl k87_171 rfl (hy4 rfl rfl rfl rfl) rfl rfl hq_78 rfl (fun q22 => ?_)
              exact q_eb rfl k87_174 rfl rfl
            · refine q_s (pc' := 124) (ls' := [vR 115, vI q4.1, vI q7.1, vI q9.1, vI q12.1]) (st' := [vR 115]) (g' := q14.2) k87_123 rfl rfl ?_
              refine q_callI (ls0 := [vR 115]) (rest := []) (pc' := 127) rfl k87_124 rfl (hy4 rfl rfl rfl rfl) rfl rfl hq_72 rfl (fun q23 => ?_)
              refine q_s (pc' := 129) (ls' := [vR 115, vI q4.1, vI q7.1, vI q9.1, vI q12.1]) (st' := [vI 58, vI q23.1]) (g' := q23.2) k87_127 rfl rfl ?_
              refine q_ic (P := q23.1 ≠ 58) (t := 170) (pc' := 132) k87_129 Iff.rfl rfl rfl (fun h24 => ?_) (fun h24 => ?_)
              · refine q_s (pc' := 171) (ls' := [vR 115, vI q4.1, vI q7.1, vI q9.1, vI q12.1]) (st' := [vR 115]) (g' := q23.2) k87_170 rfl rfl ?_
                refine q_callI (ls0 := [vR 115]) (rest := []) (pc' := 174) rfl k87_171 rfl (hy4 rfl rfl rfl rfl) rfl rfl hq_78 rfl (fun q25 => ?_)
                exact q_eb rfl k87_174 rfl rfl
              · refine q_s (pc' := 133) (ls' := [vR 115, vI q4.1, vI q7.1, vI q9.1, vI q12.1]) (st' := [vR 115]) (g' := q23.2) k87_132 rfl rfl ?_
                refine q_s (pc' := 134) (ls' := [vR 115, vI q4.1, vI q7.1, vI q9.1, vI q12.1]) (st' := [vR 115, vR 115]) (g' := q23.2) k87_133 rfl rfl ?_
                refine q_getI (w := 2) (pc' := 137) k87_134 rfl rfl rfl rfl ?_
                refine q_s (pc' := 138) (ls' := [vR 115, vI q4.1, vI q7.1, vI q9.1, vI q12.1]) (st' := [vI 1, vI (q23.2 115 2), vR 115]) (g' := q23.2) k87_137 rfl rfl ?_
                refine q_s (pc' := 139) (ls' := [vR 115, vI q4.1, vI q7.1, vI q9.1, vI q12.1]) (st' := [vI (iw ((q23.2 115 2) + 1)), vR 115]) (g' := q23.2) k87_138 rfl rfl ?_
                refine q_putI (w := 2) (pc' := 142) k87_139 rfl rfl rfl rfl ?_
                refine q_s (pc' := 143) (ls' := [vR 115, vI q4.1, vI q7.1, vI q9.1, vI q12.1]) (st' := [vR 115]) (g' := up q23.2 115 2 (iw ((q23.2 115 2) + 1))) k87_142 rfl rfl ?_
                refine q_s (pc' := 144) (ls' := [vR 115, vI q4.1, vI q7.1, vI q9.1, vI q12.1]) (st' := [vR 115, vR 115]) (g' := up q23.2 115 2 (iw ((q23.2 115 2) + 1))) k87_143 rfl rfl ?_
                refine q_getM (w := 1) (c := 3) (pc' := 147) rfl k87_144 rfl rfl rfl rfl rfl (fun h26 => ?_)
                refine q_s (pc' := 149) (ls' := [vR 115, vI q4.1, vI q7.1, vI q9.1, vI q12.1]) (st' := [vI q12.1, vR ((up q23.2 115 2 (iw ((q23.2 115 2) + 1))) 115 1), vR 115]) (g' := up q23.2 115 2 (iw ((q23.2 115 2) + 1))) k87_147 rfl rfl ?_
                refine q_goal (t := (up q23.2 115 2 (iw ((q23.2 115 2) + 1))) 115 1) (e := q12.1) (pc' := 152) rfl k87_149 h26 rfl rfl (fun h28 h29 => ?_)
                refine q_s (pc' := 153) (ls' := [vR 115, vI q4.1, vI q7.1, vI q9.1, vI q12.1]) (st' := [vR 115, vR ((up q23.2 115 2 (iw ((q23.2 115 2) + 1))) 115 1 + 2 + 2 * ((up q23.2 115 2 (iw ((q23.2 115 2) + 1))) ((up q23.2 115 2 (iw ((q23.2 115 2) + 1))) 115 1 + 23 + 2 * q12.1) 2)), vR 115]) (g' := up q23.2 115 2 (iw ((q23.2 115 2) + 1))) k87_152 rfl rfl ?_
                refine q_getM (w := 1) (c := 3) (pc' := 156) rfl k87_153 rfl rfl rfl rfl rfl (fun h30 => ?_)
                refine q_getF (r := (up q23.2 115 2 (iw ((q23.2 115 2) + 1))) 115 1 + 22) (pc' := 159) k87_156 h30 rfl (kG_f h30).2.1 rfl ?_
                refine q_s (pc' := 161) (ls' := [vR 115, vI q4.1, vI q7.1, vI q9.1, vI q12.1]) (st' := [vI q12.1, vR ((up q23.2 115 2 (iw ((q23.2 115 2) + 1))) 115 1 + 22), vR ((up q23.2 115 2 (iw ((q23.2 115 2) + 1))) 115 1 + 2 + 2 * ((up q23.2 115 2 (iw ((q23.2 115 2) + 1))) ((up q23.2 115 2 (iw ((q23.2 115 2) + 1))) 115 1 + 23 + 2 * q12.1) 2)), vR 115]) (g' := up q23.2 115 2 (iw ((q23.2 115 2) + 1))) k87_159 rfl rfl ?_
                refine q_aald (n := 16) (pc' := 162) rfl k87_161 (kG_f h30).2.2.2 rfl ((up q23.2 115 2 (iw ((q23.2 115 2) + 1))) 115 1 + 23 + 2 * q12.1) (fun h => (kG_e h30 h.1 h.2).1) (fun h31 => ?_)
                refine q_callI (ls0 := [vR 115, vR ((up q23.2 115 2 (iw ((q23.2 115 2) + 1))) 115 1 + 2 + 2 * ((up q23.2 115 2 (iw ((q23.2 115 2) + 1))) ((up q23.2 115 2 (iw ((q23.2 115 2) + 1))) 115 1 + 23 + 2 * q12.1) 2)), vR ((up q23.2 115 2 (iw ((q23.2 115 2) + 1))) 115 1 + 23 + 2 * q12.1), vU, vU, vU, vU]) (rest := []) (pc' := 165) rfl k87_162 rfl (hy4 rfl rfl rfl rfl) rfl rfl hq_86 rfl (fun q32 => ?_)
                refine q_if (P := q32.1 ≠ 0) (t := 170) (pc' := 168) k87_165 Iff.rfl rfl rfl (fun h33 => ?_) (fun h33 => ?_)
                · refine q_s (pc' := 171) (ls' := [vR 115, vI q4.1, vI q7.1, vI q9.1, vI q12.1]) (st' := [vR 115]) (g' := q32.2) k87_170 rfl rfl ?_
                  refine q_callI (ls0 := [vR 115]) (rest := []) (pc' := 174) rfl k87_171 rfl (hy4 rfl rfl rfl rfl) rfl rfl hq_78 rfl (fun q34 => ?_)
                  exact q_eb rfl k87_174 rfl rfl
                · refine q_s (pc' := 169) (ls' := [vR 115, vI q4.1, vI q7.1, vI q9.1, vI q12.1]) (st' := [vI 0]) (g' := q32.2) k87_168 rfl rfl ?_
                  exact q_e k87_169 rfl rfl rfl
        · refine q_s (pc' := 83) (ls' := [vR 115, vI q4.1, vI q7.1, vI q9.1, vU]) (st' := [vI 0]) (g' := q9.2) k87_82 rfl rfl ?_
          exact q_e k87_83 rfl rfl rfl
      · refine q_s (pc' := 68) (ls' := [vR 115, vI q4.1, vI q7.1, vU, vU]) (st' := [vI (-1)]) (g' := q7.2) k87_67 rfl rfl ?_
        refine q_s (pc' := 77) (ls' := [vR 115, vI q4.1, vI q7.1, vU, vU]) (st' := [vI (-1)]) (g' := q7.2) k87_68 rfl rfl ?_
        refine q_s (pc' := 78) (ls' := [vR 115, vI q4.1, vI q7.1, vI (-1), vU]) (st' := []) (g' := q7.2) k87_77 rfl rfl ?_
        refine q_s (pc' := 79) (ls' := [vR 115, vI q4.1, vI q7.1, vI (-1), vU]) (st' := [vI (-1)]) (g' := q7.2) k87_78 rfl rfl ?_
        refine q_s (pc' := 82) (ls' := [vR 115, vI q4.1, vI q7.1, vI (-1), vU]) (st' := []) (g' := q7.2) k87_79 rfl rfl ?_
        refine q_s (pc' := 83) (ls' := [vR 115, vI q4.1, vI q7.1, vI (-1), vU]) (st' := [vI 0]) (g' := q7.2) k87_82 rfl rfl ?_
        exact q_e k87_83 rfl rfl rfl
    · refine q_s (pc' := 48) (ls' := [vR 115, vI q4.1, vU, vU, vU]) (st' := [vI (-1)]) (g' := q4.2) k87_47 rfl rfl ?_
      refine q_s (pc' := 62) (ls' := [vR 115, vI q4.1, vU, vU, vU]) (st' := [vI (-1)]) (g' := q4.2) k87_48 rfl rfl ?_
      refine q_s (pc' := 63) (ls' := [vR 115, vI q4.1, vI (-1), vU, vU]) (st' := []) (g' := q4.2) k87_62 rfl rfl ?_
      refine q_s (pc' := 64) (ls' := [vR 115, vI q4.1, vI (-1), vU, vU]) (st' := [vI (-1)]) (g' := q4.2) k87_63 rfl rfl ?_
      refine q_s (pc' := 67) (ls' := [vR 115, vI q4.1, vI (-1), vU, vU]) (st' := []) (g' := q4.2) k87_64 rfl rfl ?_
      refine q_s (pc' := 68) (ls' := [vR 115, vI q4.1, vI (-1), vU, vU]) (st' := [vI (-1)]) (g' := q4.2) k87_67 rfl rfl ?_
      refine q_s (pc' := 77) (ls' := [vR 115, vI q4.1, vI (-1), vU, vU]) (st' := [vI (-1)]) (g' := q4.2) k87_68 rfl rfl ?_
      refine q_s (pc' := 78) (ls' := [vR 115, vI q4.1, vI (-1), vI (-1), vU]) (st' := []) (g' := q4.2) k87_77 rfl rfl ?_
      refine q_s (pc' := 79) (ls' := [vR 115, vI q4.1, vI (-1), vI (-1), vU]) (st' := [vI (-1)]) (g' := q4.2) k87_78 rfl rfl ?_
      refine q_s (pc' := 82) (ls' := [vR 115, vI q4.1, vI (-1), vI (-1), vU]) (st' := []) (g' := q4.2) k87_79 rfl rfl ?_
      refine q_s (pc' := 83) (ls' := [vR 115, vI q4.1, vI (-1), vI (-1), vU]) (st' := [vI 0]) (g' := q4.2) k87_82 rfl rfl ?_
      exact q_e k87_83 rfl rfl rfl
  · refine q_s (pc' := 13) (ls' := [vR 115, vU, vU, vU, vU]) (st' := [vR 115]) (g' := g) k87_12 rfl rfl ?_
    refine q_s (pc' := 14) (ls' := [vR 115, vU, vU, vU, vU]) (st' := [vR 115, vR 115]) (g' := g) k87_13 rfl rfl ?_
    refine q_getI (w := 2) (pc' := 17) k87_14 rfl rfl rfl rfl ?_
    refine q_callI (ls0 := [vR 115, vI (g 115 2)]) (rest := []) (pc' := 20) rfl k87_17 rfl (hy4 rfl rfl rfl rfl) rfl rfl hq_73 rfl (fun q35 => ?_)
    exact q_eb rfl k87_20 rfl rfl
