/-! the class: rings -/
section RIC
variable {L : Nat} {V g : AMem} {e i j p r s t w x : Int}
theorem cH_countWanting (hV : VaV V) (he0 : 0 ≤ e) (he1 : e < V 0 1) (hH : Ho L V e g) : jHo_countWanting L r g = some (wtC V e r, g) := by
  have hn := edg_n hV he0 he1
  rw [jHo_countWanting_eq]
  unfold wtC
  refine lp (F := fun i => jHo_countWanting_4 L r (cnB (wtF V e r) i.toNat) i g) (n := V 1 (V 3 e)) ?_ ?_ 0 (Int.le_refl _) hn.1
  · intro i h2 h3 ih
    have hc := cnB_b (f := wtF V e r) (k := i.toNat)
    rw [cnB_s h2] at ih
    have hf : wtF V e r i = (opB V e i && decide (V (20 + e) i = r)) := rfl
    have c1 : 0 ≤ i ∧ i < aln (SH L) (g 116 1) := by rw [hH.2.1.2.1]; omega
    have hg := (hH.2.2.2 i h2 h3).2
    rw [hf] at ih
    rw [jHo_countWanting_4_eq, hH.2.2.1, if_neg (by omega), cH_isOpen hV he0 he1 hH h2 h3, bnd, iw_n (show 0 ≤ i + 1 by omega) (by omega), iw_n (show 0 ≤ cnB (wtF V e r) i.toNat + 0 by omega) (by omega), iw_n (show 0 ≤ cnB (wtF V e r) i.toNat + 1 by omega) (by omega)]
    dsimp only
    rw [ifz]
    by_cases q : opB V e i = true
    · rw [if_pos q, if_pos hH.2.1.1, if_pos c1]
      by_cases q2 : V (20 + e) i = r
      · rw [if_neg (show ¬ g (g 116 1) i ≠ r by rw [hg]; simp [q2])]
        rw [if_pos (by simp [q, q2])] at ih
        exact ih
      · rw [if_pos (show g (g 116 1) i ≠ r by rw [hg]; exact q2)]
        rw [if_neg (by simp [q2])] at ih
        exact ih
    · rw [if_neg q]
      rw [if_neg (by simp [q])] at ih
      exact ih
  · rw [jHo_countWanting_4_eq, hH.2.2.1, if_pos (Int.le_refl _)]
theorem cH_openAt (hV : VaV V) (he0 : 0 ≤ e) (he1 : e < V 0 1) (hH : Ho L V e g) : jHo_openAt L r g = some (opA V e r, g) := by
  have hn := edg_n hV he0 he1
  rw [jHo_openAt_eq]
  have hmain : ∀ (m : Nat) (i : Int), 0 ≤ i → i + m = V 1 (V 3 e) → (∀ j, 0 ≤ j → j < i → opB V e j = true → V (10 + V 3 e) j ≠ r) → jHo_openAt_2 L r i g = some (opA V e r, g) := by
    intro m
    induction m with
    | zero =>
      intro i i0 i1 hf
      rw [jHo_openAt_2_eq, hH.2.2.1, if_pos (by omega), opA_n (fun j j0 j1 => hf j j0 (by omega))]
    | succ m ih =>
      intro i i0 i1 hf
      have c0 : 0 ≤ i ∧ i < aln (SH L) (g 116 0) := by rw [hH.1.2.1]; omega
      have hg := (hH.2.2.2 i i0 (by omega)).1
      rw [jHo_openAt_2_eq, hH.2.2.1, if_neg (by omega), if_pos hH.1.1, if_pos c0, cH_isOpen hV he0 he1 hH i0 (by omega), bnd, iw_n (by omega) (by omega)]
      dsimp only
      rw [ifz]
      by_cases q : V (10 + V 3 e) i = r
      · rw [if_neg (show ¬ g (g 116 0) i ≠ r by rw [hg]; simp [q])]
        by_cases q2 : opB V e i = true
        · rw [if_pos q2, ← q, opA_p hV he0 he1 i0 (by omega) q2]
        · rw [if_neg q2]
          exact ih (i + 1) (by omega) (by omega) (fun j j0 j1 oj => by
            by_cases c : j = i
            · rw [c] at oj
              exact absurd oj q2
            · exact hf j j0 (by omega) oj)
      · rw [if_pos (show g (g 116 0) i ≠ r by rw [hg]; exact q)]
        exact ih (i + 1) (by omega) (by omega) (fun j j0 j1 oj => by
          by_cases c : j = i
          · rw [c]
            exact q
          · exact hf j j0 (by omega) oj)
  exact hmain (V 1 (V 3 e)).toNat 0 (by omega) (by omega) (fun j j0 j1 => by omega)
theorem cH_ring4 (hV : VaV V) (he0 : 0 ≤ e) (he1 : e < V 0 1) (hH : Ho L V e g) : ∀ (m : Nat) (i t : Int), t + m = V 1 (V 3 e) + 1 → 0 ≤ t → 0 ≤ i → i < V 1 (V 3 e) → jHo_ringSize_4 L p i t g = some (rgF V e p m i t, g)
  | 0, i, t, ht, t0, i0, i1 => by
    rw [jHo_ringSize_4_eq, hH.2.2.1, if_pos (by omega), rgF]
  | m + 1, i, t, ht, t0, i0, i1 => by
    have hn := edg_n hV he0 he1
    have c0 : 0 ≤ i ∧ i < aln (SH L) (g 116 0) := by rw [hH.1.2.1]; omega
    have c1 : 0 ≤ i ∧ i < aln (SH L) (g 116 1) := by rw [hH.2.1.2.1]; omega
    have hg := hH.2.2.2 i i0 i1
    rw [jHo_ringSize_4_eq, hH.2.2.1, if_neg (by omega), if_pos hH.1.1, if_pos c0, hg.1, cH_countWanting hV he0 he1 hH, bnd, rgF]
    dsimp only
    rw [if_pos hH.2.1.1, if_pos c1, hg.2, cH_openAt hV he0 he1 hH, bnd, iw_n (by omega) (by omega)]
    dsimp only
    by_cases q : wtC V e (V (10 + V 3 e) i) = 1
    · have hs : sxI V e i = opA V e (V (20 + e) i) := by
        unfold sxI
        rw [if_pos q]
      rw [if_pos q, hs]
      rcases opA_b (V := V) (e := e) (r := V (20 + e) i) with h | h
      · rw [h, if_neg (by omega), if_pos (by omega)]
      · rw [if_pos h.1, if_neg (show ¬ opA V e (V (20 + e) i) < 0 by omega)]
        by_cases q2 : opA V e (V (20 + e) i) = p
        · rw [if_neg (show ¬ opA V e (V (20 + e) i) ≠ p by simp [q2]), if_pos q2]
        · rw [if_pos q2, if_neg q2]
          exact cH_ring4 hV he0 he1 hH m _ (t + 1) (by omega) (by omega) h.1 h.2.1
    · have hs : sxI V e i = -1 := by
        unfold sxI
        rw [if_neg q]
      rw [if_neg q, hs, if_pos (by omega)]
theorem cH_ringSize (hV : VaV V) (he0 : 0 ≤ e) (he1 : e < V 0 1) (hH : Ho L V e g) (h0 : 0 ≤ p) (h1 : p < V 1 (V 3 e)) (ho : opB V e p = true) : jHo_ringSize L p g = some (rgZ V e p, g) := by
  have hn := edg_n hV he0 he1
  rw [jHo_ringSize_eq, cH_ring4 hV he0 he1 hH (V 1 (V 3 e)).toNat p 1 (by omega) (by omega) h0 h1]
  unfold rgZ
  rw [if_pos ho]
theorem cH_countIn (hV : VaV V) (he0 : 0 ≤ e) (he1 : e < V 0 1) (hH : Ho L V e g) : jHo_countInRingsOf L s g = some (cnB (rcF V e s) (V 1 (V 3 e)).toNat, g) := by
  have hn := edg_n hV he0 he1
  rw [jHo_countInRingsOf_eq]
  refine lp (F := fun i => jHo_countInRingsOf_4 L s (cnB (rcF V e s) i.toNat) i g) (n := V 1 (V 3 e)) ?_ ?_ 0 (Int.le_refl _) hn.1
  · intro i h2 h3 ih
    have hc := cnB_b (f := rcF V e s) (k := i.toNat)
    rw [cnB_s h2] at ih
    have hf : rcF V e s i = (opB V e i && decide (rgZ V e i = s)) := rfl
    rw [hf] at ih
    rw [jHo_countInRingsOf_4_eq, hH.2.2.1, if_neg (by omega), cH_isOpen hV he0 he1 hH h2 h3, bnd, iw_n (show 0 ≤ i + 1 by omega) (by omega), iw_n (show 0 ≤ cnB (rcF V e s) i.toNat + 0 by omega) (by omega), iw_n (show 0 ≤ cnB (rcF V e s) i.toNat + 1 by omega) (by omega)]
    dsimp only
    rw [ifz]
    by_cases q : opB V e i = true
    · rw [if_pos q, cH_ringSize hV he0 he1 hH h2 h3 q, bnd]
      dsimp only
      by_cases q2 : rgZ V e i = s
      · rw [if_neg (show ¬ rgZ V e i ≠ s by simp [q2])]
        rw [if_pos (by simp [q, q2])] at ih
        exact ih
      · rw [if_pos q2]
        rw [if_neg (by simp [q2])] at ih
        exact ih
    · rw [if_neg q]
      rw [if_neg (by simp [q])] at ih
      exact ih
  · rw [jHo_countInRingsOf_4_eq, hH.2.2.1, if_pos (Int.le_refl _)]
theorem cH_countRings (hV : VaV V) (he0 : 0 ≤ e) (he1 : e < V 0 1) (hH : Ho L V e g) : jHo_countRings L g = some (smI (prT V e) (V 1 (V 3 e)).toNat / 60, g) := by
  have hn := edg_n hV he0 he1
  have b : ∀ s, 0 ≤ cnB (rcF V e s) (V 1 (V 3 e)).toNat ∧ cnB (rcF V e s) (V 1 (V 3 e)).toNat ≤ 6 := fun s => by
    have := cnB_b (f := rcF V e s) (k := (V 1 (V 3 e)).toNat)
    omega
  have st : ∀ c s : Int, 2 ≤ s → s ≤ 6 → 0 ≤ c → c ≤ 100 → jHo_countRings_4 L c s g = jHo_countRings_4 L (c + cnB (rcF V e s) (V 1 (V 3 e)).toNat / s) (s + 1) g := by
    intro c s s0 s1 c0 c1
    have hb := b s
    have d0 : 0 ≤ cnB (rcF V e s) (V 1 (V 3 e)).toNat / s := Int.ediv_nonneg hb.1 (by omega)
    have d1 : cnB (rcF V e s) (V 1 (V 3 e)).toNat / s ≤ cnB (rcF V e s) (V 1 (V 3 e)).toNat := Int.ediv_le_self s hb.1
    rw [jHo_countRings_4_eq, if_neg (by omega), cH_countIn hV he0 he1 hH, bnd, if_neg (by omega), tdv hb.1]
    dsimp only
    rw [iw_n d0 (by omega), iw_n (show 0 ≤ c + cnB (rcF V e s) (V 1 (V 3 e)).toNat / s by omega) (by omega), iw_n (by omega) (by omega)]
  have b2 := b 2
  have b3 := b 3
  have b4 := b 4
  have b5 := b 5
  have b6 := b 6
  have t2 := st 0 2 (by omega) (by omega) (by omega) (by omega)
  rw [show (2 : Int) + 1 = 3 from rfl] at t2
  have t3 := st (0 + cnB (rcF V e 2) (V 1 (V 3 e)).toNat / 2) 3 (by omega) (by omega) (by omega) (by omega)
  rw [show (3 : Int) + 1 = 4 from rfl] at t3
  have t4 := st (0 + cnB (rcF V e 2) (V 1 (V 3 e)).toNat / 2 + cnB (rcF V e 3) (V 1 (V 3 e)).toNat / 3) 4 (by omega) (by omega) (by omega) (by omega)
  rw [show (4 : Int) + 1 = 5 from rfl] at t4
  have t5 := st (0 + cnB (rcF V e 2) (V 1 (V 3 e)).toNat / 2 + cnB (rcF V e 3) (V 1 (V 3 e)).toNat / 3 + cnB (rcF V e 4) (V 1 (V 3 e)).toNat / 4) 5 (by omega) (by omega) (by omega) (by omega)
  rw [show (5 : Int) + 1 = 6 from rfl] at t5
  have t6 := st (0 + cnB (rcF V e 2) (V 1 (V 3 e)).toNat / 2 + cnB (rcF V e 3) (V 1 (V 3 e)).toNat / 3 + cnB (rcF V e 4) (V 1 (V 3 e)).toNat / 4 + cnB (rcF V e 5) (V 1 (V 3 e)).toNat / 5) 6 (by omega) (by omega) (by omega) (by omega)
  rw [show (6 : Int) + 1 = 7 from rfl] at t6
  rw [jHo_countRings_eq, t2, t3, t4, t5, t6, jHo_countRings_4_eq, if_pos (by omega), rc_sum hV he0 he1, show (0 : Int) + cnB (rcF V e 2) (V 1 (V 3 e)).toNat / 2 = cnB (rcF V e 2) (V 1 (V 3 e)).toNat / 2 by omega]
theorem cH_longest (hV : VaV V) (he0 : 0 ≤ e) (he1 : e < V 0 1) (hH : Ho L V e g) : jHo_longestRing L g = some (mxR V e (V 1 (V 3 e)).toNat, g) := by
  have hn := edg_n hV he0 he1
  rw [jHo_longestRing_eq]
  refine lp (F := fun i => jHo_longestRing_4 L (mxR V e i.toNat) i g) (n := V 1 (V 3 e)) ?_ ?_ 0 (Int.le_refl _) hn.1
  · intro i h2 h3 ih
    have hb := mxR_b hV he0 he1 (k := i.toNat)
    rw [mxR_s h2] at ih
    rw [jHo_longestRing_4_eq, hH.2.2.1, if_neg (by omega), cH_isOpen hV he0 he1 hH h2 h3, bnd, iw_n (show 0 ≤ i + 1 by omega) (by omega)]
    dsimp only
    rw [ifz]
    by_cases q : opB V e i = true
    · rw [if_pos q, cH_ringSize hV he0 he1 hH h2 h3 q, bnd]
      dsimp only
      have hm : (if mxR V e i.toNat < rgZ V e i then rgZ V e i else mxR V e i.toNat) = (if rgZ V e i ≤ mxR V e i.toNat then mxR V e i.toNat else rgZ V e i) := by
        split <;> split <;> omega
      rw [hm]
      exact ih
    · have hz : rgZ V e i = 0 := by
        unfold rgZ
        rw [if_neg q]
      rw [if_neg q]
      rw [hz, if_pos hb.1] at ih
      exact ih
  · rw [jHo_longestRing_4_eq, hH.2.2.1, if_pos (Int.le_refl _)]
theorem cX_rings (hV : VaV V) (hC : ClV V t g) : CO (oRings V e w) (jX_rings L e w g) g := by
  have ew : (if 0 ≤ w ∧ w < 3 then (1 : Int) else 0) = (if 0 ≤ w ∧ w ≤ 2 then 1 else 0) := by
    split <;> split <;> omega
  rw [jX_rings_eq, cX_isBelow, bnd]
  simp only [bns]
  rw [ew]
  unfold oRings
  have key := cX_ref (L := L) (e := e) (r := if 0 ≤ w ∧ w ≤ 2 then 1 else 0) (o := (rnA V e w, V)) (F := fun h => if kin (SH L) (h 2 0) = 3 then (if 0 ≤ e ∧ e < 16 then (if 0 ≤ h (h 2 0 + 23 + 2 * e) 2 ∧ h (h 2 0 + 23 + 2 * e) 2 < 10 then (if kin (SH L) (h 2 0) = 3 then (if 0 ≤ e ∧ e < 16 then ((jHo_look L (h 2 0 + 2 + 2 * (h (h 2 0 + 23 + 2 * e) 2)) (h 2 0 + 23 + 2 * e) h).bind (fun q10 => if w = 0 then (jHo_countRings L q10) else (if w = 1 then (jHo_longestRing L q10) else (jHo_countOpenOutsideRings L q10)))) else none) else none) else none) else none) else none) hV hC (fun he0 he1 hr _ h hh => by
    have h0 := hV.1
    have h1 := hV.2.1
    have ht := hh.1
    have e20 := hh.2.1.1
    subst e20
    have hE2 := hV.2.2.2.2.2.1 e he0 he1
    have hE := hh.2.2.1.2.2 e he0 he1
    have c16 : 0 ≤ e ∧ e < 16 := by omega
    have c10 : 0 ≤ V 3 e ∧ V 3 e < 10 := by omega
    obtain ⟨g1, a1, a2, a3⟩ := cH_look (L := L) hV hh he0 he1
    rw [if_pos (kG' ht), if_pos c16]
    simp only [hE.2.1]
    rw [if_pos c10, if_pos (kG' ht), if_pos c16, a1, bnd]
    unfold rnA
    by_cases w0 : w = 0
    · rw [if_pos w0, if_pos w0, cH_countRings hV he0 he1 a3]
      exact CO_c hV hh (H6_c a2)
    · rw [if_neg w0, if_neg w0]
      by_cases w1 : w = 1
      · rw [if_pos w1, if_pos w1, cH_longest hV he0 he1 a3]
        exact CO_c hV hh (H6_c a2)
      · rw [if_neg w1, if_neg w1, jHo_countOpenOutsideRings_eq, bns, cH_countIn hV he0 he1 a3]
        exact CO_c hV hh (H6_c a2))
  rw [ifn] at key
  exact key
end RIC
