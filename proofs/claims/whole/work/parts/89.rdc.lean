/-! the class reads: edges, all of it -/
section RCE
variable {L : Nat} {V W g h : AMem} {a b c e f i j k n p q t u w x : Int}
theorem cR_ed4 (hR : Rc V W u p g) (he0 : 0 ≤ e) (he1 : e < W 0 1) : RB V u (pEd4 V W e p) (if kin (SH L) (g 115 1) = 3 then ((jGr_hasEdge L (g 115 1) e g).bind (fun q14 => if q14.1 = 0 then ((jRe_readEnd L q14.2).bind (fun q16 => if q16.1 = 0 ∨ q16.1 = 1 then some (q16.1, q16.2) else none)) else (if kin (SH L) (q14.2 115 1) = 3 then (if 0 ≤ e ∧ e < 16 then (if 0 ≤ q14.2 (q14.2 115 1 + 23 + 2 * e) 2 ∧ q14.2 (q14.2 115 1 + 23 + 2 * e) 2 < 10 then (if q14.2 (q14.2 115 1 + 2 + 2 * (q14.2 (q14.2 115 1 + 23 + 2 * e) 2)) 1 ≤ 0 then ((jRe_readEnd L q14.2).bind (fun q22 => if q22.1 = 0 ∨ q22.1 = 1 then some (q22.1, q22.2) else none)) else ((jRe_nextByte L q14.2).bind (fun q23 => if q23.1 ≠ 58 then ((jRe_readEnd L q23.2).bind (fun q25 => if q25.1 = 0 ∨ q25.1 = 1 then some (q25.1, q25.2) else none)) else (if kin (SH L) ((up q23.2 115 2 (iw ((q23.2 115 2) + 1))) 115 1) = 3 then (if 0 ≤ e ∧ e < 16 then (if 0 ≤ (up q23.2 115 2 (iw ((q23.2 115 2) + 1))) ((up q23.2 115 2 (iw ((q23.2 115 2) + 1))) 115 1 + 23 + 2 * e) 2 ∧ (up q23.2 115 2 (iw ((q23.2 115 2) + 1))) ((up q23.2 115 2 (iw ((q23.2 115 2) + 1))) 115 1 + 23 + 2 * e) 2 < 10 then (if kin (SH L) ((up q23.2 115 2 (iw ((q23.2 115 2) + 1))) 115 1) = 3 then (if 0 ≤ e ∧ e < 16 then ((jRe_readArguments L ((up q23.2 115 2 (iw ((q23.2 115 2) + 1))) 115 1 + 2 + 2 * ((up q23.2 115 2 (iw ((q23.2 115 2) + 1))) ((up q23.2 115 2 (iw ((q23.2 115 2) + 1))) 115 1 + 23 + 2 * e) 2)) ((up q23.2 115 2 (iw ((q23.2 115 2) + 1))) 115 1 + 23 + 2 * e) (up q23.2 115 2 (iw ((q23.2 115 2) + 1)))).bind (fun q32 => if q32.1 ≠ 0 then ((jRe_readEnd L q32.2).bind (fun q34 => if q34.1 = 0 ∨ q34.1 = 1 then some (q34.1, q34.2) else none)) else (some (0, q32.2)))) else none) else none) else none) else none) else none)))) else none) else none) else none))) else none) g := by
  have h0 := hR.1.1
  have h1 := hR.1.2.1
  have hu := hR.2.2.1
  have hn := edg_n hR.1 he0 he1
  have hE2 := hR.1.2.2.2.2.2.1 e he0 he1
  have kb : kin (SH L) (u + 2 + 2 * W 3 e) = 0 := (kG_b (kG' hu) (by omega) (by omega)).2
  have ke : kin (SH L) (u + 23 + 2 * e) = 2 := (kG_e (kG' hu) (by omega) (by omega)).2
  have c16 : 0 ≤ e ∧ e < 16 := by omega
  have c10 : 0 ≤ W 3 e ∧ W 3 e < 10 := by omega
  have hgE := hR.2.2.2.1.2.2 e he0 he1
  have hgB := hR.2.2.2.1.2.1 _ hE2.2.1.1 hE2.2.1.2
  have e1 := hR.2.2.2.2.1.1
  simp only [e1]
  rw [if_pos (kG' hu), cG_hasEdge hu hR.2.2.2.1, bnd]
  dsimp only
  rw [ifz, if_pos ⟨he0, he1⟩]
  simp only [e1, hgE.2.1, hgB.1]
  rw [if_pos (kG' hu), if_pos c16, if_pos c10]
  unfold pEd4
  by_cases hm : W 1 (W 3 e) = 0
  · rw [if_pos (show W 1 (W 3 e) ≤ 0 by omega)]
    have he := RB_e (cR_readEnd (L := L) hR)
    by_cases c : skT V p < V 0 6 ∧ V 5 (skT V p) = 58
    · have hpe : pEnd V W p = (false, skT V p, W) := by
        unfold pEnd
        rw [if_neg (fun h => by omega)]
      rw [hpe] at he
      rw [if_pos c, if_pos hm]
      exact he
    · rw [if_neg c]
      exact he
  · rw [if_neg (show ¬ W 1 (W 3 e) ≤ 0 by omega)]
    obtain ⟨g1, a1, a2, a3⟩ := cR_nextByte (L := L) hR
    have e2 := a2.2.2.2.2.1.2.1
    have hp := a2.2.2.2.2.2.2
    rw [a1, bnd]
    simp only [e2]
    by_cases c : skT V p < V 0 6 ∧ V 5 (skT V p) = 58
    · have c' : ¬ (if skT V p < V 0 6 then V 5 (skT V p) else -1) ≠ 58 := by
        rw [if_pos c.1]
        simp [c.2]
      have hR1 := Rc_p a2 (show 0 ≤ skT V p + 1 by omega) (by omega)
      have e1' := hR1.2.2.2.2.1.1
      have hgE' := hR1.2.2.2.1.2.2 e he0 he1
      rw [if_pos c, if_neg hm, if_neg c', iw_n (show 0 ≤ skT V p + 1 by omega) (by omega)]
      simp only [e1', hgE'.2.1]
      rw [if_pos (kG' hu), if_pos c16, if_pos c10, if_pos (kG' hu), if_pos c16, jRe_readArguments_eq L _ _ _ kb ke]
      exact RB_t (Rf_t a3 (Rf_5 Rf_r)) (cR_args he0 _ W _ 0 _ _ _ _ hR1 he1 (by omega) (by omega))
    · have c' : (if skT V p < V 0 6 then V 5 (skT V p) else -1) ≠ 58 := by
        by_cases c1 : skT V p < V 0 6
        · rw [if_pos c1]
          exact fun h => c ⟨c1, h⟩
        · rw [if_neg c1]
          omega
      have he := RB_e (cR_readEnd (L := L) a2)
      rw [pEnd_s] at he
      rw [if_neg c, if_pos c']
      exact RB_t a3 he
theorem cR_readEdge (hR : Rc V W u p g) (hp : p < V 0 6) : RB V u (pEdg V W p) (jRe_readEdge L g) g := by
  have h0 := hR.1.1
  have h1 := hR.1.2.1
  have hu := hR.2.2.1
  have e1 := hR.2.2.2.2.1.1
  have e2 := hR.2.2.2.2.1.2.1
  have hp0 := hR.2.2.2.2.2.2
  have eE : g (g 115 1) 3 = W 0 1 := by rw [e1]; exact hR.2.2.2.1.1.2
  have hk3 : kin (SH L) (g 115 1) = 3 := by rw [e1]; exact kG' hu
  rw [jRe_readEdge_eq, if_pos hk3]
  unfold pEdg
  by_cases q : W 0 1 = 16
  · rw [if_pos q, if_neg (show ¬ g (g 115 1) 3 < 16 by omega), e2]
    exact RB_e RB_f
  · rw [if_neg q, if_pos (show g (g 115 1) 3 < 16 by omega), e2, iw_n (by omega) (by omega)]
    have hR1 := Rc_p hR (show 0 ≤ p + 1 by omega) (by omega)
    have hS1 : Rf u g (up g 115 2 (p + 1)) := Rf_5 Rf_r
    have e1' := hR1.2.2.2.2.1.1
    have eB' := hR1.2.2.2.1.1.1
    rw [if_pos (show kin (SH L) (up g 115 2 (p + 1) 115 1) = 3 by rw [e1']; exact kG' hu), e1', eB']
    obtain ⟨g1, a1, a2, a3, a4⟩ := cR_numBelow (L := L) (b := W 0 0) hR1 (by omega)
    rw [a1, bnd]
    dsimp only
    unfold pEd1
    by_cases c1 : numB V (skT V (p + 1)) 0 (W 0 0 - 1) = true
    · have n1 := numB_i.mp c1
      have r1 := a3 c1
      have k1 : kin (SH L) (g1 115 1) = 3 := by rw [r1.2.2.2.2.1.1]; exact kG' hu
      rw [if_pos c1, if_pos c1, if_pos n1.2.2.1, if_pos k1, r1.2.2.2.2.1.1, r1.2.2.2.1.1.1]
      obtain ⟨g2, b1, b2, b3, b4⟩ := cR_numBelow (L := L) (b := W 0 0) r1 (by omega)
      rw [b1, bnd]
      dsimp only
      unfold pEd2
      generalize numV V (skT V (p + 1)) = f1 at n1 ⊢
      generalize skT V (p + 1) + fgT V (skT V (p + 1)) = p1 at a3 r1 b1 b3 b4 ⊢
      by_cases c2 : numB V (skT V p1) 0 (W 0 0 - 1) = true
      · have n2 := numB_i.mp c2
        have r2 := b3 c2
        rw [if_pos c2, if_pos c2, if_pos n2.2.2.1]
        obtain ⟨g3, d1, d2, d3, d4⟩ := cR_numBelow (L := L) (b := 100) r2 (by omega)
        rw [show (100 : Int) - 1 = 99 by omega] at d1 d3 d4
        rw [d1, bnd]
        dsimp only
        unfold pEd3
        generalize numV V (skT V p1) = t1 at n2 ⊢
        generalize skT V p1 + fgT V (skT V p1) = p2 at b3 r2 d1 d3 d4 ⊢
        by_cases c3 : numB V (skT V p2) 0 99 = true
        · have n3 := numB_i.mp c3
          have r3 := d3 c3
          have k3 : kin (SH L) (g3 115 1) = 3 := by rw [r3.2.2.2.2.1.1]; exact kG' hu
          obtain ⟨g4, f1', f2, f3⟩ := cG_addEdge (L := L) (f := f1) (p := t1) (w := numV V (skT V p2)) r3.1 hu r3.2.2.2.1 (by omega) (by omega) (by omega) (by omega) (by omega)
          have hR4 : Rc V (neV W f1 t1 (numV V (skT V p2))) u (skT V p2 + fgT V (skT V p2)) g4 := Rc_g r3 (VaV_ne r3.1 (by omega) (by omega) (by omega) (by omega) (by omega) (by omega) (by omega)) (TX_ne r3.2.1 h1.1) f2 f3
          rw [if_pos c3, if_pos c3, if_pos n3.2.2.1, if_pos k3, r3.2.2.2.2.1.1, f1', bnd]
          exact RB_t (Rf_t hS1 (Rf_t a2 (Rf_t b2 (Rf_t d2 (Rf_g f3))))) (cR_ed4 hR4 h1.1 (by rw [ne_0 h1.1]; omega))
        · rw [if_neg c3, if_neg c3, if_neg (show ¬ (0 : Int) ≤ -1 by omega)]
          exact ⟨g3, rfl, Rf_t hS1 (Rf_t a2 (Rf_t b2 d2)), fun h => (by cases h), fun _ => d4 (Bool.eq_false_iff.mpr c3)⟩
      · rw [if_neg c2, if_neg c2, if_neg (show ¬ (0 : Int) ≤ -1 by omega)]
        exact ⟨g2, rfl, Rf_t hS1 (Rf_t a2 b2), fun h => (by cases h), fun _ => b4 (Bool.eq_false_iff.mpr c2)⟩
    · rw [if_neg c1, if_neg c1, if_neg (show ¬ (0 : Int) ≤ -1 by omega)]
      exact ⟨g1, rfl, Rf_t hS1 a2, fun h => (by cases h), fun _ => a4 (Bool.eq_false_iff.mpr c1)⟩
theorem cR_into : ∀ (k : Nat) (W g : AMem) (p c : Int) (x y : AVal), Rc V W u p g → 0 ≤ c → c ≤ p → V 0 6 < p + k → ∃ g', jRe_readInto_19 L u c x y g = some ((pIte V k W p c).1, g') ∧ Rf u g g' ∧ (0 < (pIte V k W p c).1 → GrV (pIte V k W p c).2 u g')
  | 0, W, g, p, c, x, y, hR, c0, c1, hk => by
    have := hR.2.2.2.2.2.2
    omega
  | k + 1, W, g, p, c, x, y, hR, c0, c1, hk => by
    have hp := hR.2.2.2.2.2.2
    have hu := hR.2.2.1
    have hs := skT_b (V := V) hp.2.1
    obtain ⟨g1, a1, a2, a3⟩ := cR_nextByte (L := L) hR
    have e2 := a2.2.2.2.2.1.2.1
    have hv := a2.2.2.2.2.2.1
    rw [jRe_readInto_19_eq L u c x y g (kG' hu), if_neg (by omega), a1, bnd, pIte]
    dsimp only
    rw [e2]
    by_cases h1 : V 0 6 ≤ skT V p
    · rw [if_pos h1, if_neg (show ¬ skT V p < V 0 6 by omega), if_neg (show ¬ (0 : Int) ≤ -1 by omega)]
      by_cases h2 : c = 0
      · rw [if_pos h2, if_pos (show c ≤ 0 by omega), if_pos (show (-1 : Int) ≠ 98 by omega), if_pos (show (-1 : Int) ≠ 101 by omega), jRe_failAt_eq, bnd]
        dsimp only
        rw [if_neg (show ¬ (0 : Int) ≠ 0 by omega), up_s, iw_s (by omega)]
        exact ⟨_, rfl, Rf_5 a3, fun h => by omega⟩
      · rw [if_neg h2, if_neg (show ¬ c ≤ 0 by omega)]
        exact ⟨g1, rfl, a3, fun _ => a2.2.2.2.1⟩
    · have hlt : skT V p < V 0 6 := by omega
      have hch := hv (skT V p) (by omega) hlt
      have hI := pIt1_I (V := V) a2.1 a2.2.1 (p := skT V p) hlt
      rw [if_neg h1, if_pos hlt, if_pos (show 0 ≤ V 5 (skT V p) by omega)]
      have hgo : ∀ (o : Option (Int × AMem)), RB V u (pIt1 V W (skT V p)) o g1 → ∃ g', (o.bind (fun q10 => if q10.1 ≠ 0 then (jRe_readInto_19 L u (iw (c + 1)) (vI (V 5 (skT V p))) (vI q10.1) q10.2) else (some (iw ((-300) - (q10.2 115 3)), q10.2)))) = some ((if (pIt1 V W (skT V p)).1 = true then pIte V k (pIt1 V W (skT V p)).2.2 (pIt1 V W (skT V p)).2.1 (c + 1) else (-300 - (pIt1 V W (skT V p)).2.1, (pIt1 V W (skT V p)).2.2)).1, g') ∧ Rf u g g' ∧ (0 < (if (pIt1 V W (skT V p)).1 = true then pIte V k (pIt1 V W (skT V p)).2.2 (pIt1 V W (skT V p)).2.1 (c + 1) else (-300 - (pIt1 V W (skT V p)).2.1, (pIt1 V W (skT V p)).2.2)).1 → GrV (if (pIt1 V W (skT V p)).1 = true then pIte V k (pIt1 V W (skT V p)).2.2 (pIt1 V W (skT V p)).2.1 (c + 1) else (-300 - (pIt1 V W (skT V p)).2.1, (pIt1 V W (skT V p)).2.2)).2 u g') := by
        rintro o ⟨g2, b1, b2, b3, b4⟩
        have hi1 := hI.1
        have hi2 := hI.2.1
        rw [b1, bnd]
        dsimp only
        rw [ifn]
        by_cases h2 : (pIt1 V W (skT V p)).1 = true
        · have hi3 := hI.2.2.1 h2
          simp only [h2, if_true]
          rw [iw_n (by omega) (by omega)]
          obtain ⟨g3, d1, d2, d3⟩ := cR_into k _ g2 _ (c + 1) (vI (V 5 (skT V p))) (vI (if (pIt1 V W (skT V p)).1 = true then 1 else 0)) (b3 h2) (by omega) (by omega) (by omega)
          rw [if_pos h2] at d1
          exact ⟨g3, d1, Rf_t a3 (Rf_t b2 d2), d3⟩
        · rw [if_neg h2, if_neg h2, b4 (Bool.eq_false_iff.mpr h2), iw_s (by omega)]
          exact ⟨g2, rfl, Rf_t a3 b2, fun h => by dsimp only at h; omega⟩
      by_cases h2 : V 5 (skT V p) = 98
      · rw [if_neg (show ¬ V 5 (skT V p) ≠ 98 by omega)]
        refine hgo _ ?_
        have := cR_readBlock (L := L) a2 hlt
        unfold pIt1
        rw [if_pos h2]
        exact this
      · rw [if_pos h2]
        by_cases h3 : V 5 (skT V p) = 101
        · rw [if_neg (show ¬ V 5 (skT V p) ≠ 101 by omega)]
          refine hgo _ ?_
          have := cR_readEdge (L := L) a2 hlt
          unfold pIt1
          rw [if_neg h2, if_pos h3]
          exact this
        · rw [if_pos h3]
          refine hgo _ ?_
          unfold pIt1
          rw [if_neg h2, if_neg h3]
          exact RB_f
theorem cX_read (hV : VaV V) (hC : ClV V t g) : CO (oRead V) (jX_read L g) g := by
  have h6 := hV.2.2.2.1
  have hcs := hV.2.2.2.2.2.2
  have ht := hC.1
  have e21 := hC.2.1.2
  obtain ⟨u, hu⟩ : ∃ u, u = 61 - t := ⟨_, rfl⟩
  have hu3 : u = 3 ∨ u = 58 := by omega
  have e21' : g 2 1 = u := by rw [e21, hu]
  have hk3 : kin (SH L) (g 2 1) = 3 := by rw [e21']; exact kG' hu3
  obtain ⟨g1, a1, a2, a3⟩ := cG_removeAll (L := L) (V := V) (g := up g 115 1 u) hu3
  have hR : Rc V (oAnew V).2 u 0 (up g1 115 2 0) := by
    refine ⟨oAnew_V hV, an_T hV, hu3, GrV_k (oAnew_V hV) a2 (fun a k _ _ => up_n (by omega)), ⟨by rw [up_n (by omega), a3 _ _ (by omega), up_s], up_s, by rw [up_n (by omega), a3 _ _ (by omega), up_n (by omega)]; exact hC.2.2.2.1.2.2.2.2⟩, fun i i0 i1 => ?_, by omega, h6.1, h6.2⟩
    rw [up_n (by omega), a3 _ _ (by omega), up_n (by omega)]
    exact ⟨hC.2.2.2.2 i i0 i1, hcs i i0 i1⟩
  obtain ⟨g2, b1, b2, b3⟩ := cR_into (L := L) 122 (oAnew V).2 (up g1 115 2 0) 0 0 vU vU hR (by omega) (by omega) (by omega)
  have hI := pIte_I (V := V) h6.2 122 (oAnew V).2 0 0 (oAnew_V hV) (an_T hV) (by omega) h6.1 (by omega) (by omega)
  have hF : ∀ a k, ¬ (u ≤ a ∧ a ≤ u + 54) → a ≠ 115 → g2 a k = g a k := fun a k c1 c2 => by rw [b2 a k c1 c2, up_n (by omega), a3 a k c1, up_n (by omega)]
  have hH : Hi g g2 := fun a k c => hF a k (by omega) (by omega)
  rw [jX_read_eq, if_pos hk3, e21', jRe_readInto_eq L u g (kG' hu3), if_pos (show kin (SH L) (up g 115 1 u 115 1) = 3 by rw [up_s]; exact kG' hu3), up_s, a1, bnd, b1, bnd]
  dsimp only
  unfold oRead
  by_cases hq : 0 < (pIte V 122 (oAnew V).2 0 0).1
  · have e20 : g2 2 0 = t := by rw [hF _ _ (by omega) (by omega)]; exact hC.2.1.1
    have e21'' : g2 2 1 = u := by rw [hF _ _ (by omega) (by omega)]; exact e21'
    have hT := hI.2.2
    rw [if_pos hq, if_neg (show ¬ (pIte V 122 (oAnew V).2 0 0).1 ≤ 0 by omega), if_pos (show kin (SH L) (g2 2 0) = 3 by rw [e20]; exact kG' ht), if_pos (show kin (SH L) (g2 2 1) = 3 by rw [e21'']; exact kG' hu3), e20, e21'']
    have n : ∀ a k, a ≠ 2 ∨ (k ≠ 0 ∧ k ≠ 1) → up (up g2 2 0 u) 2 1 t a k = g2 a k := fun a k c => by rw [up_n (by omega), up_n (by omega)]
    refine ⟨_, u, rfl, ⟨hu3, ⟨by rw [up_n (by omega), up_s], by rw [up_s]; omega⟩, GrV_k hI.2.1 (b3 hq) (fun a k c1 c2 => n a k (by omega)), ?_, fun i i0 i1 => ?_⟩, Hi_t hH (Hi_u (Hi_u Hi_r (by omega)) (by omega))⟩
    · rw [n _ _ (by omega), n _ _ (by omega), n _ _ (by omega), n _ _ (by omega), n _ _ (by omega), hF _ _ (by omega) (by omega), hF _ _ (by omega) (by omega), hF _ _ (by omega) (by omega), hF _ _ (by omega) (by omega), hF _ _ (by omega) (by omega), hT.2.2 _ (by omega), hT.2.2 _ (by omega), hT.2.2 _ (by omega), hT.2.2 _ (by omega), hT.2.2 _ (by omega)]
      exact hC.2.2.2.1
    · rw [hT.1] at i1
      rw [n _ _ (by omega), hF _ _ (by omega) (by omega), hT.2.1]
      exact hC.2.2.2.2 i i0 i1
  · rw [if_neg hq, if_pos (show (pIte V 122 (oAnew V).2 0 0).1 ≤ 0 by omega)]
    obtain ⟨c0, c1, c2, c3, c4⟩ := hC
    refine ⟨g2, t, rfl, ⟨c0, by rw [hF _ _ (by omega) (by omega), hF _ _ (by omega) (by omega)]; exact c1, GrV_k hV c2 (fun a k q1 q2 => hF a k (by omega) (by omega)), ?_, fun i i0 i1 => ?_⟩, hH⟩
    · rw [hF _ _ (by omega) (by omega), hF _ _ (by omega) (by omega), hF _ _ (by omega) (by omega), hF _ _ (by omega) (by omega), hF _ _ (by omega) (by omega)]
      exact c3
    · rw [hF _ _ (by omega) (by omega)]
      exact c4 i i0 i1
end RCE
