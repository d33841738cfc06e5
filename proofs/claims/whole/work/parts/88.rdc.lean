/-! the class reads: blocks, edges, all -/
section RCB
variable {L : Nat} {V W g h : AMem} {a b c e f i j k n p q t u w x : Int}
theorem RB_x {r : PRes} {o : Option (Int × AMem)} {v : Int} (hr : r = (false, v, W)) (h : RB V u r (jRe_failAt L v g) g) (ho : o = jRe_failAt L v g) : RB V u r o g := by rw [ho]; exact h
theorem cR_block40 (hb0 : 0 ≤ b) : ∀ (k : Nat) (W g : AMem) (p i : Int) (x y : AVal), Rc V W u p g → b < W 0 0 → W 1 b = i → i + k = 7 → RB V u (pPar V b k W p) (jRe_readBlock_40 L b i x y g) g
  | 0, W, g, p, i, x, y, hR, hb1, hi, hk => by
    have hm := (hR.1.2.2.2.2.1 b hb0 hb1).1
    omega
  | k + 1, W, g, p, i, x, y, hR, hb1, hi, hk => by
    have hm := (hR.1.2.2.2.2.1 b hb0 hb1).1
    have h10 := hR.1.1
    have hp := hR.2.2.2.2.2.2
    have hs := skT_b (V := V) hp.2.1
    have hu := hR.2.2.1
    have hf := fgT_b (V := V) (p := skT V p)
    have c10 : 0 ≤ b ∧ b < 10 := by omega
    rw [jRe_readBlock_40_eq, pPar]
    by_cases h6 : i = 6
    · rw [if_pos (show 6 ≤ i by omega)]
      have he := RB_e (cR_readEnd (L := L) hR)
      by_cases c : skT V p < V 0 6 ∧ isF (V 5 (skT V p)) = true
      · have hpe : pEnd V W p = (false, skT V p, W) := by
          unfold pEnd
          rw [if_neg]
          intro h
          have := isF_i.mp c.2
          omega
        rw [hpe] at he
        rw [if_pos c, if_pos (show W 1 b = 6 by omega)]
        exact he
      · rw [if_neg c]
        exact he
    · rw [if_neg (show ¬ 6 ≤ i by omega)]
      obtain ⟨g1, a1, a2, a3⟩ := cR_nextByte (L := L) hR
      have e2 := a2.2.2.2.2.1.2.1
      rw [a1, bnd, cR_isFigure, bnd]
      dsimp only
      rw [ifz, e2]
      by_cases c : skT V p < V 0 6 ∧ isF (V 5 (skT V p)) = true
      · have h1 := fgT_1 c.1 c.2
        obtain ⟨g2, b1, b2, b3⟩ := cR_readNumber (L := L) a2
        rw [if_pos c, if_neg (show ¬ W 1 b = 6 by omega), if_pos c.1, if_pos c.2, b1, bnd]
        dsimp only
        have hnum : ∃ v, v = (if fgT V (skT V p) ≤ 3 then numV V (skT V p) else 1000) ∧ cno v ∧ -1 ≤ v ∧ v ≤ 1000 := by
          refine ⟨_, rfl, ?_, ?_, ?_⟩
          · by_cases h3 : fgT V (skT V p) ≤ 3
            · have := numV_b h3
              rw [if_pos h3]
              exact ⟨by omega, by omega⟩
            · rw [if_neg h3]
              exact ⟨by omega, by omega⟩
          · by_cases h3 : fgT V (skT V p) ≤ 3
            · have := numV_b h3
              rw [if_pos h3]
              omega
            · rw [if_neg h3]
              omega
          · by_cases h3 : fgT V (skT V p) ≤ 3
            · have := numV_b h3
              rw [if_pos h3]
              omega
            · rw [if_neg h3]
              omega
        obtain ⟨v, hv, hcv, hv0, hv1⟩ := hnum
        rw [← hv, cRg_isRegion hcv, bnd]
        dsimp only
        rw [ifz]
        have hk3 : kin (SH L) (g2 115 1) = 3 := by rw [b2.2.2.2.2.1.1]; exact kG' hu
        have hfail : ∀ r : PRes, r = (false, skT V p, W) → RB V u r ((jRe_failAt L (skT V p) g2).bind (fun q => if q.1 = 0 ∨ q.1 = 1 then some (q.1, q.2) else none)) g := by
          intro r hr
          rw [hr]
          exact RB_t (Rf_t a3 b3) (RB_e RB_f)
        by_cases hr : isRg v = true
        · have hrb := isRg_b hr
          have h3 : fgT V (skT V p) ≤ 3 := by
            by_cases h3 : fgT V (skT V p) ≤ 3
            · exact h3
            · rw [if_neg h3] at hv
              omega
          rw [if_pos h3] at hv
          have hnb : numB V (skT V p) 0 999 = true := numB_i.mpr ⟨h1, h3, by omega, by omega⟩
          rw [if_pos hr, if_pos hk3, if_pos c10, b2.2.2.2.2.1.1, cB_hasRoomAt b2.1 hu b2.2.2.2.1 hb0 hb1 ⟨by omega, by omega⟩, bnd]
          dsimp only
          by_cases hkk : tkB W b v = true
          · rw [if_pos hkk, if_neg (show ¬ (0 : Int) ≠ 0 by omega)]
            refine hfail _ ?_
            rw [if_neg (fun h => by rw [← hv, hkk] at h; cases h.2.2)]
          · rw [if_neg hkk, if_pos (show (1 : Int) ≠ 0 by omega), if_pos hk3, b2.2.2.2.2.1.1]
            obtain ⟨g3, c1, c2, c3⟩ := cG_addParameter (L := L) (r := v) b2.1 hu b2.2.2.2.1 hb0 hb1 (by omega)
            rw [c1, bnd, if_pos ⟨hnb, by rw [← hv]; exact hr, by rw [← hv]; exact Bool.eq_false_iff.mpr hkk⟩, ← hv, iw_n (by omega) (by omega)]
            refine RB_t (Rf_t a3 (Rf_t b3 (Rf_g c3))) (cR_block40 hb0 k (npV W b v) g3 _ (i + 1) _ _ (Rc_g b2 (VaV_np b2.1 hb0 hb1 (by omega) hr (tkB_f (Bool.eq_false_iff.mpr hkk))) (TX_np b2.2.1 hb0) c2 c3) (by rw [np_b (by omega) (by omega) (by omega)]; exact hb1) (by rw [np_1 hb0]; omega) (by omega))
        · rw [if_neg hr]
          refine hfail _ ?_
          rw [if_neg]
          intro h
          have hn := numB_i.mp h.1
          rw [if_pos hn.2.1] at hv
          exact hr (by rw [hv]; exact h.2.1)
      · have he := RB_e (cR_readEnd (L := L) a2)
        rw [pEnd_s] at he
        rw [if_neg c]
        by_cases c1 : skT V p < V 0 6
        · rw [if_pos c1, if_neg (fun h => c ⟨c1, h⟩)]
          exact RB_t a3 he
        · rw [if_neg c1, if_neg (show ¬ isF (-1) = true by decide)]
          exact RB_t a3 he
theorem cR_readBlock (hR : Rc V W u p g) (hp : p < V 0 6) : RB V u (pBlk V W p) (jRe_readBlock L g) g := by
  have h0 := hR.1.1
  have hu := hR.2.2.1
  have e1 := hR.2.2.2.2.1.1
  have e2 := hR.2.2.2.2.1.2.1
  have hp0 := hR.2.2.2.2.2.2
  have hk3 : kin (SH L) (g 115 1) = 3 := by rw [e1]; exact kG' hu
  rw [jRe_readBlock_eq, if_pos hk3]
  unfold pBlk
  by_cases q : W 0 0 = 10
  · rw [if_pos q, e1, jGr_addBlock_eq L u g (kG' hu), hR.2.2.2.1.1.1, if_neg (by omega), bnd]
    dsimp only
    rw [if_pos hk3, e1, cG_hasBlock hu hR.2.2.2.1, bnd]
    dsimp only
    rw [ifn, if_neg (by omega), e2]
    exact RB_e RB_f
  · obtain ⟨g1, a1, a2, a3⟩ := cG_addBlock (L := L) hR.1 hu hR.2.2.2.1 (by omega)
    have hR1 : Rc V (nbV W) u p g1 := Rc_g hR (VaV_nb hR.1 (by omega)) (TX_nb hR.2.1) a2 a3
    have e1' := hR1.2.2.2.2.1.1
    have hk3' : kin (SH L) (g1 115 1) = 3 := by rw [e1']; exact kG' hu
    rw [if_neg q, e1, a1, bnd]
    dsimp only
    rw [if_pos hk3', e1', cG_hasBlock hu a2, bnd]
    dsimp only
    rw [ifn, if_pos (by rw [nb_0]; omega), hR1.2.2.2.2.1.2.1, iw_n (by omega) (by omega)]
    exact RB_t (Rf_t (Rf_g a3) (Rf_5 Rf_r)) (cR_block40 h0.1 7 _ _ _ 0 _ _ (Rc_p hR1 (by omega) (by omega)) (by rw [nb_0]; omega) (by rw [nb_1]) (by omega))
theorem cR_args (he0 : 0 ≤ e) : ∀ (k : Nat) (W g : AMem) (i p : Int) (x y z : AVal), Rc V W u p g → e < W 0 1 → 0 ≤ i → i + k = W 1 (W 3 e) → RB V u (pArg V e k W i p) ((jRe_readArguments_2 L (u + 2 + 2 * W 3 e) (u + 23 + 2 * e) i x y z g).bind (fun q32 => if q32.1 ≠ 0 then ((jRe_readEnd L q32.2).bind (fun q34 => if q34.1 = 0 ∨ q34.1 = 1 then some (q34.1, q34.2) else none)) else (some (0, q32.2)))) g
  | 0, W, g, i, p, x, y, z, hR, he1, hi, hk => by
    have h0 := hR.1.1
    have h1 := hR.1.2.1
    have hu := hR.2.2.1
    have hE2 := hR.1.2.2.2.2.2.1 e he0 he1
    have kb : kin (SH L) (u + 2 + 2 * W 3 e) = 0 := (kG_b (kG' hu) (by omega) (by omega)).2
    have ke : kin (SH L) (u + 23 + 2 * e) = 2 := (kG_e (kG' hu) (by omega) (by omega)).2
    have hB := hR.2.2.2.1.2.1 _ hE2.2.1.1 hE2.2.1.2
    rw [jRe_readArguments_2_eq L _ _ i x y z g kb ke, hB.1, if_pos (by omega), bnd, if_pos (by omega), pArg]
    exact RB_e (cR_readEnd hR)
  | k + 1, W, g, i, p, x, y, z, hR, he1, hi, hk => by
    have h0 := hR.1.1
    have h1 := hR.1.2.1
    have hu := hR.2.2.1
    have hn := edg_n hR.1 he0 he1
    have hE2 := hR.1.2.2.2.2.2.1 e he0 he1
    have hbO := bOK_e hR.1 he0 he1
    have kb : kin (SH L) (u + 2 + 2 * W 3 e) = 0 := (kG_b (kG' hu) (by omega) (by omega)).2
    have ke : kin (SH L) (u + 23 + 2 * e) = 2 := (kG_e (kG' hu) (by omega) (by omega)).2
    have hB := hR.2.2.2.1.2.1 _ hE2.2.1.1 hE2.2.1.2
    have c6 : 0 ≤ i ∧ i < 6 := by omega
    have hpp := isRg_b (hbO.2.1 i hi (by omega))
    obtain ⟨g1, a1, a2, a3⟩ := cR_nextByte (L := L) hR
    have e2 := a2.2.2.2.2.1.2.1
    have hp := a2.2.2.2.2.2.2
    have hfail : ∀ h, Rf u g h → RB V u (false, skT V p, W) ((((jRe_failAt L (skT V p) h).bind (fun q10 => if q10.1 = 0 ∨ q10.1 = 1 then some (q10.1, q10.2) else none))).bind (fun q32 => if q32.1 ≠ 0 then ((jRe_readEnd L q32.2).bind (fun q34 => if q34.1 = 0 ∨ q34.1 = 1 then some (q34.1, q34.2) else none)) else (some (0, q32.2)))) g := by
      intro h hS
      rw [jRe_failAt_eq, bnd, if_pos (Or.inl rfl), bnd, if_neg (by simp)]
      exact ⟨up h 115 3 (skT V p), rfl, Rf_5 hS, fun h => (by cases h), fun _ => up_s⟩
    have hgo : ∀ (h : AMem) (v q : Int) (x y z : AVal), Rc V W u q h → Rf u g h → okA v (W (10 + W 3 e) i) → RB V u (pArg V e k (up W (20 + e) i v) (i + 1) q) ((jRe_readArguments_2 L (u + 2 + 2 * W 3 e) (u + 23 + 2 * e) (i + 1) x y z (up h (u + 23 + 2 * e + 1) i v)).bind (fun q32 => if q32.1 ≠ 0 then ((jRe_readEnd L q32.2).bind (fun q34 => if q34.1 = 0 ∨ q34.1 = 1 then some (q34.1, q34.2) else none)) else (some (0, q32.2)))) g := by
      intro h v q x y z hRh hS hok
      have n3 : up W (20 + e) i v 3 e = W 3 e := up_n (by omega)
      have hG : Gt u h (up h (u + 23 + 2 * e + 1) i v) := Gt_u Gt_r (by omega)
      have ih := cR_args he0 k (up W (20 + e) i v) (up h (u + 23 + 2 * e + 1) i v) (i + 1) q x y z (Rc_g hRh (VaV_up hRh.1 he0 hi hok) (TX_up hRh.2.1 he0) (GrV_up hRh.1 hRh.2.2.2.1 he0 he1) hG) (by rw [up_n (by omega)]; exact he1) (by omega) (by rw [n3, up_n (by omega)]; omega)
      rw [n3] at ih
      exact RB_t (Rf_t hS (Rf_g hG)) ih
    have hpar : ∀ h, Rc V W u (h 115 2) h → h (u + 2 + 2 * W 3 e + 1) i = W (10 + W 3 e) i := fun h hh => (hh.2.2.2.1.2.1 _ hE2.2.1.1 hE2.2.1.2).2 i hi (by omega)
    rw [jRe_readArguments_2_eq L _ _ i x y z g kb ke, hB.1, if_neg (by omega), a1, bnd, pArg]
    dsimp only
    rw [e2]
    unfold pGiv
    by_cases c : skT V p < V 0 6 ∧ V 5 (skT V p) = 35
    · have c' : ¬ (if skT V p < V 0 6 then V 5 (skT V p) else -1) ≠ 35 := by
        rw [if_pos c.1]
        simp [c.2]
      obtain ⟨g2, q, v, b1, b2, b3, b4, b5, b6, b7⟩ := cR_readConstant (L := L) a2 c.1
      have hpa : g2 (u + 2 + 2 * W 3 e + 1) i = W (10 + W 3 e) i := hpar g2 (by rw [b2.2.2.2.2.1.2.1]; exact b2)
      rw [if_pos c, if_neg c', iw_n (show 0 ≤ i + 1 by omega) (by omega), b1, bnd]
      dsimp only
      rw [cRg_isConst b4, bnd]
      dsimp only
      rw [ifn]
      by_cases hB : numB V (skT V p + 1) 0 99 = true
      · have hnb := numB_i.mp hB
        obtain ⟨hv, hq⟩ := b6 hB
        rw [if_pos hB, if_pos (show 0 ≤ -1 - v ∧ -1 - v < 100 by omega), if_pos c6, if_pos rfl, ← hq, ← hv]
        exact hgo g2 _ _ _ _ _ b2 (Rf_t a3 b3) (Or.inl (by omega))
      · have h7 := b7 hB
        have hng : ¬ (isRg v = true ∧ v % 10 = W (10 + W 3 e) i % 10) := fun h => by
          have := isRg_b h.1
          omega
        rw [if_neg hB, if_neg (show ¬ (0 ≤ -1 - v ∧ -1 - v < 100) by omega), if_pos c6, hpa, cRg_isAsWide b5 ⟨by omega, by omega⟩, bnd]
        dsimp only
        rw [ifn, if_neg hng, if_neg (by simp)]
        exact hfail g2 (Rf_t a3 b3)
    · have c' : (if skT V p < V 0 6 then V 5 (skT V p) else -1) ≠ 35 := by
        by_cases c1 : skT V p < V 0 6
        · rw [if_pos c1]
          exact fun h => c ⟨c1, h⟩
        · rw [if_neg c1]
          omega
      obtain ⟨g2, q, b1, b2, b3, b6⟩ := cR_readRegion (L := L) a2
      have hpa : g2 (u + 2 + 2 * W 3 e + 1) i = W (10 + W 3 e) i := hpar g2 (by rw [b2.2.2.2.2.1.2.1]; exact b2)
      obtain ⟨v, hv⟩ : ∃ v, v = (if numB V (skT V p) 0 999 = true then numV V (skT V p) else 1000) := ⟨_, rfl⟩
      have hvb : 0 ≤ v ∧ v ≤ 1000 := by
        by_cases h9 : numB V (skT V p) 0 999 = true
        · have := numB_i.mp h9
          rw [if_pos h9] at hv
          omega
        · rw [if_neg h9] at hv
          omega
      rw [if_neg c, if_pos c', iw_n (show 0 ≤ i + 1 by omega) (by omega), b1, ← hv, bnd]
      dsimp only
      rw [cRg_isConst ⟨by omega, by omega⟩, bnd]
      dsimp only
      rw [ifn, if_neg (show ¬ (0 ≤ -1 - v ∧ -1 - v < 100) by omega), if_pos c6, hpa, cRg_isAsWide ⟨by omega, by omega⟩ ⟨by omega, by omega⟩, bnd]
      dsimp only
      rw [ifn]
      by_cases hG : numB V (skT V p) 0 999 = true ∧ isRg (numV V (skT V p)) = true ∧ numV V (skT V p) % 10 = W (10 + W 3 e) i % 10
      · have hq := b6 hG.1
        rw [if_pos hG.1] at hv
        rw [if_pos hG, ← hv, if_pos (show isRg v = true ∧ v % 10 = W (10 + W 3 e) i % 10 by rw [hv]; exact hG.2), if_pos c6, if_pos rfl, ← hq]
        exact hgo g2 _ _ _ _ _ b2 (Rf_t a3 b3) (Or.inr (by rw [hv]; exact hG.2))
      · have hng : ¬ (isRg v = true ∧ v % 10 = W (10 + W 3 e) i % 10) := fun h => by
          by_cases h9 : numB V (skT V p) 0 999 = true
          · rw [if_pos h9] at hv
            exact hG ⟨h9, by rw [← hv]; exact h.1, by rw [← hv]; exact h.2⟩
          · rw [if_neg h9] at hv
            have := isRg_b h.1
            omega
        rw [if_neg hG, if_neg hng, if_neg (by simp)]
        exact hfail g2 (Rf_t a3 b3)
end RCB
