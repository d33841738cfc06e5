/-! the class reads: numbers, ends -/
def Rc (V W : AMem) (u p : Int) (g : AMem) : Prop := VaV W ∧ TX V W ∧ (u = 3 ∨ u = 58) ∧ GrV W u g ∧ (g 115 1 = u ∧ g 115 2 = p ∧ g 113 1 = V 0 6) ∧ (∀ i, 0 ≤ i → i < V 0 6 → g 114 i = V 5 i ∧ 0 ≤ V 5 i ∧ V 5 i ≤ 127) ∧ 0 ≤ p ∧ p ≤ V 0 6 ∧ V 0 6 ≤ 120
def Rf (u : Int) (g g' : AMem) : Prop := ∀ a k, ¬ (u ≤ a ∧ a ≤ u + 54) → a ≠ 115 → g' a k = g a k
def RB (V : AMem) (u : Int) (r : PRes) (q : Option (Int × AMem)) (g : AMem) : Prop := ∃ g', q = some (if r.1 = true then 1 else 0, g') ∧ Rf u g g' ∧ (r.1 = true → Rc V r.2.2 u r.2.1 g') ∧ (r.1 = false → g' 115 3 = r.2.1)
section RCA
variable {L : Nat} {V W g h : AMem} {a b c e f i j k n p q t u w x : Int}
theorem Rf_r : Rf u g g := fun _ _ _ _ => rfl
theorem Rf_t {j : AMem} (h1 : Rf u g h) (h2 : Rf u h j) : Rf u g j := fun a k q q' => by rw [h2 a k q q', h1 a k q q']
theorem Rf_5 (h1 : Rf u g h) : Rf u g (up h 115 k x) := fun a' k' q q' => by rw [up_n (by omega), h1 a' k' q q']
theorem Rf_g (h1 : Gt u g h) : Rf u g h := fun a k q _ => h1 a k q
theorem Rc_p (hR : Rc V W u p g) (h0 : 0 ≤ q) (h1 : q ≤ V 0 6) : Rc V W u q (up g 115 2 q) := by
  obtain ⟨r1, r2, r3, r4, r5, r6, r7⟩ := hR
  exact ⟨r1, r2, r3, GrV_k r1 r4 (fun a k _ _ => up_n (by omega)), ⟨by rw [up_n (by omega)]; exact r5.1, up_s, by rw [up_n (by omega)]; exact r5.2.2⟩, fun i i0 i1 => by rw [up_n (by omega)]; exact r6 i i0 i1, h0, h1, r7.2.2⟩
/-- when the graph has changed -/
theorem Rc_g {W' : AMem} (hR : Rc V W u p g) (hV : VaV W') (hT : TX V W') (hG : GrV W' u h) (hS : Gt u g h) : Rc V W' u p h := by
  obtain ⟨r1, r2, r3, r4, r5, r6, r7⟩ := hR
  exact ⟨hV, hT, r3, hG, ⟨by rw [hS _ _ (by omega)]; exact r5.1, by rw [hS _ _ (by omega)]; exact r5.2.1, by rw [hS _ _ (by omega)]; exact r5.2.2⟩, fun i i0 i1 => by rw [hS _ _ (by omega)]; exact r6 i i0 i1, r7⟩
theorem RB_t {r : PRes} {o : Option (Int × AMem)} (h1 : Rf u g h) (h2 : RB V u r o h) : RB V u r o g := by
  obtain ⟨g', a1, a2, a3, a4⟩ := h2
  exact ⟨g', a1, Rf_t h1 a2, a3, a4⟩
theorem RB_e {r : PRes} {o : Option (Int × AMem)} (h : RB V u r o g) : RB V u r (o.bind (fun q => if q.1 = 0 ∨ q.1 = 1 then some (q.1, q.2) else none)) g := by
  obtain ⟨g', a1, a2⟩ := h
  refine ⟨g', ?_, a2⟩
  rw [a1, bnd]
  exact ite01
theorem RB_f : RB V u (false, x, W) (jRe_failAt L x g) g := by
  rw [jRe_failAt_eq]
  exact ⟨_, rfl, Rf_5 Rf_r, fun h => (by cases h), fun _ => up_s⟩
theorem cT_at (hR : Rc V W u p g) (h0 : 0 ≤ q) : jTe_at L q g = some (if q < V 0 6 then V 5 q else -1, g) := by
  obtain ⟨r1, r2, r3, r4, r5, r6, r7⟩ := hR
  rw [jTe_at_eq, if_neg (by omega), r5.2.2]
  by_cases c : q < V 0 6
  · rw [if_neg (by omega), if_pos (by omega), if_pos c, (r6 q h0 c).1]
  · rw [if_pos (by omega), if_neg c]
theorem cR_nextByte (hR : Rc V W u p g) : ∃ g', jRe_nextByte L g = some (if skT V p < V 0 6 then V 5 (skT V p) else -1, g') ∧ Rc V W u (skT V p) g' ∧ Rf u g g' := by
  have hmain : ∀ (k : Nat) (p : Int) (g : AMem), V 0 6 - p ≤ k → Rc V W u p g → ∃ g', jRe_nextByte_0 L g = some (if skT V p < V 0 6 then V 5 (skT V p) else -1, g') ∧ Rc V W u (skT V p) g' ∧ Rf u g g' := by
    intro k
    induction k with
    | zero =>
      intro p g hk hR
      have hp := hR.2.2.2.2.2.2
      have e2 := hR.2.2.2.2.1.2.1
      have hsk : skT V p = p := by rw [skT_e, if_neg (by omega)]
      refine ⟨g, ?_, by rw [hsk]; exact hR, Rf_r⟩
      rw [jRe_nextByte_0_eq, if_pos (show g 113 1 ≤ g 115 2 by rw [e2, hR.2.2.2.2.1.2.2]; omega), bns, e2, cT_at hR hp.1, hsk]
    | succ k ih =>
      intro p g hk hR
      have hp := hR.2.2.2.2.2.2
      have e2 := hR.2.2.2.2.1.2.1
      have e1 := hR.2.2.2.2.1.2.2
      by_cases c : p < V 0 6
      · rw [jRe_nextByte_0_eq, if_neg (show ¬ g 113 1 ≤ g 115 2 by omega), e2, cT_at hR hp.1, bnd]
        dsimp only
        rw [if_pos c]
        by_cases c2 : V 5 p = 32
        · have hsk : skT V p = skT V (p + 1) := by rw [skT_e, if_pos ⟨c, c2⟩]
          rw [if_neg (show ¬ V 5 p ≠ 32 by omega), e2, iw_n (by omega) (by omega), hsk]
          obtain ⟨g', a1, a2, a3⟩ := ih (p + 1) (up g 115 2 (p + 1)) (by omega) (Rc_p hR (by omega) (by omega))
          exact ⟨g', a1, a2, Rf_t (Rf_5 Rf_r) a3⟩
        · have hsk : skT V p = p := by rw [skT_e, if_neg (fun h => c2 h.2)]
          rw [if_pos c2, e2, cT_at hR hp.1, bns, hsk]
          exact ⟨g, rfl, hR, Rf_r⟩
      · have hsk : skT V p = p := by rw [skT_e, if_neg (fun h => c h.1)]
        refine ⟨g, ?_, by rw [hsk]; exact hR, Rf_r⟩
        rw [jRe_nextByte_0_eq, if_pos (show g 113 1 ≤ g 115 2 by omega), bns, e2, cT_at hR hp.1, hsk]
  exact hmain (V 0 6 - p).toNat p g (by omega) hR
theorem cR_isFigure : jRe_isFigure L c g = some (if isF c = true then 1 else 0, g) := by
  rw [jRe_isFigure_eq]
  unfold isF
  simp only [decide_eq_true_eq]
  repeat' split
  all_goals first
    | rfl
    | omega
theorem cR_readNumber (hR : Rc V W u p g) : ∃ g', jRe_readNumber L g = some (if fgT V p ≤ 3 then numV V p else 1000, g') ∧ Rc V W u (p + fgT V p) g' ∧ Rf u g g' := by
  have hp := hR.2.2.2.2.2.2
  have hf := fgT_b (V := V) (p := p)
  have hf2 := hf.2 hp.2.1
  rw [jRe_readNumber_eq]
  refine lpx (F := fun i h => jRe_readNumber_4 L (if i ≤ 3 then nvT V p i.toNat else 1000) i h) (I := fun i h => Rc V W u (p + i) h ∧ Rf u g h) (P := fun o => ∃ g', o = some (if fgT V p ≤ 3 then numV V p else 1000, g') ∧ Rc V W u (p + fgT V p) g' ∧ Rf u g g') (n := fgT V p) ?_ ?_ 0 g (Int.le_refl _) hf.1 ⟨by rw [show p + 0 = p by omega]; exact hR, Rf_r⟩
  · intro i h h2 h3 hI ih
    have hd := fgT_d (V := V) (p := p) (j := i) h2 h3
    have e2 := hI.1.2.2.2.2.1.2.1
    have e1 := hI.1.2.2.2.2.1.2.2
    have hF : isF (V 5 (p + i)) = true := isF_i.mpr hd.2
    rw [jRe_readNumber_4_eq, if_neg (show ¬ h 113 1 ≤ h 115 2 by omega), e2, cT_at hI.1 (by omega), bnd]
    dsimp only
    rw [if_pos hd.1, cR_isFigure, bnd]
    dsimp only
    rw [ifz, if_pos hF, iw_n (show 0 ≤ i + 1 by omega) (by omega), e2, cT_at hI.1 (by omega), bnd, iw_n (show 0 ≤ p + i + 1 by omega) (by omega)]
    dsimp only
    rw [if_pos hd.1, e2, iw_n (show 0 ≤ p + i + 1 by omega) (by omega)]
    have hnx : Rc V W u (p + (i + 1)) (up h 115 2 (p + i + 1)) ∧ Rf u g (up h 115 2 (p + i + 1)) := by
      refine ⟨?_, Rf_5 hI.2⟩
      rw [show p + (i + 1) = p + i + 1 by omega]
      exact Rc_p hI.1 (by omega) (by omega)
    by_cases c : i + 1 ≤ 3
    · have hv := nvT_b (V := V) (p := p) (k := i.toNat) (by omega) (by omega)
      rw [if_pos c, nvT_s h2] at ih
      rw [if_pos c, if_pos (show i ≤ 3 by omega), iw_n (show 0 ≤ 10 * nvT V p i.toNat by omega) (by omega), iw_n (show 0 ≤ 10 * nvT V p i.toNat + V 5 (p + i) by omega) (by omega), iw_n (show 0 ≤ 10 * nvT V p i.toNat + V 5 (p + i) - 48 by omega) (by omega)]
      exact ih _ hnx
    · rw [if_neg c] at ih
      rw [if_neg c]
      exact ih _ hnx
  · intro h hI
    have e2 := hI.1.2.2.2.2.1.2.1
    have e1 := hI.1.2.2.2.2.1.2.2
    refine ⟨h, ?_, hI⟩
    have hv : (if fgT V p ≤ 3 then nvT V p (fgT V p).toNat else 1000) = (if fgT V p ≤ 3 then numV V p else 1000) := rfl
    rw [hv, jRe_readNumber_4_eq]
    by_cases c : V 0 6 ≤ p + fgT V p
    · rw [if_pos (show h 113 1 ≤ h 115 2 by omega)]
    · have hnf : isF (V 5 (p + fgT V p)) = false := by
        have hend : ∀ (k : Nat) (q : Int), fgT V q ≤ k → q + fgT V q < V 0 6 → isF (V 5 (q + fgT V q)) = false := by
          intro k
          induction k with
          | zero =>
            intro q hk hlt
            have h0 := fgT_b (V := V) (p := q)
            have : fgT V q = 0 := by omega
            rw [this, show q + 0 = q by omega]
            cases hq : isF (V 5 q) with
            | false => rfl
            | true =>
              rw [fgT_e, if_pos ⟨by omega, hq⟩] at this
              have := fgT_b (V := V) (p := q + 1)
              omega
          | succ k ihk =>
            intro q hk hlt
            by_cases hq : q < V 0 6 ∧ isF (V 5 q) = true
            · have he : fgT V q = fgT V (q + 1) + 1 := by rw [fgT_e, if_pos hq]
              have := ihk (q + 1) (by omega) (by omega)
              rw [he, show q + (fgT V (q + 1) + 1) = q + 1 + fgT V (q + 1) by omega]
              exact this
            · have he : fgT V q = 0 := by rw [fgT_e, if_neg hq]
              rw [he, show q + 0 = q by omega]
              cases hq2 : isF (V 5 q) with
              | false => rfl
              | true => exact absurd ⟨by omega, hq2⟩ hq
        exact hend (fgT V p).toNat p (by omega) (by omega)
      rw [if_neg (show ¬ h 113 1 ≤ h 115 2 by omega), e2, cT_at hI.1 (by omega), bnd]
      dsimp only
      rw [if_pos (show p + fgT V p < V 0 6 by omega), cR_isFigure, bnd]
      dsimp only
      rw [ifz, if_neg (show ¬ isF (V 5 (p + fgT V p)) = true by rw [hnf]; simp)]
theorem fgT_1 (h1 : p < V 0 6) (h2 : isF (V 5 p) = true) : 1 ≤ fgT V p := by
  have := fgT_b (V := V) (p := p + 1)
  rw [fgT_e, if_pos ⟨h1, h2⟩]
  omega
theorem fgT_z (h : ¬ (p < V 0 6 ∧ isF (V 5 p) = true)) : fgT V p = 0 := by rw [fgT_e, if_neg h]
theorem cR_numBelow (hR : Rc V W u p g) (hb : b ≤ 1000) : ∃ g', jRe_readNumberBelow L b g = some (if numB V (skT V p) 0 (b - 1) = true then numV V (skT V p) else -1, g') ∧ Rf u g g' ∧ (numB V (skT V p) 0 (b - 1) = true → Rc V W u (skT V p + fgT V (skT V p)) g') ∧ (numB V (skT V p) 0 (b - 1) = false → g' 115 3 = skT V p) := by
  obtain ⟨g1, a1, a2, a3⟩ := cR_nextByte (L := L) hR
  have e2 := a2.2.2.2.2.1.2.1
  have hfail : ¬ numB V (skT V p) 0 (b - 1) = true → ∀ h, Rf u g h → ∃ g', ((jRe_failAt L (skT V p) h).bind (fun q8 => some ((-1 : Int), q8.2))) = some (if numB V (skT V p) 0 (b - 1) = true then numV V (skT V p) else -1, g') ∧ Rf u g g' ∧ (numB V (skT V p) 0 (b - 1) = true → Rc V W u (skT V p + fgT V (skT V p)) g') ∧ (numB V (skT V p) 0 (b - 1) = false → g' 115 3 = skT V p) := by
    intro hB h hS
    rw [jRe_failAt_eq, bnd, if_neg hB]
    exact ⟨up h 115 3 (skT V p), rfl, Rf_5 hS, fun h => absurd h hB, fun _ => up_s⟩
  rw [jRe_readNumberBelow_eq, a1, bnd, cR_isFigure, bnd]
  dsimp only
  rw [ifn, e2]
  by_cases c : skT V p < V 0 6 ∧ isF (V 5 (skT V p)) = true
  · have h1 := fgT_1 c.1 c.2
    rw [if_pos c.1, if_pos c.2]
    obtain ⟨g2, b1, b2, b3⟩ := cR_readNumber (L := L) a2
    rw [b1, bnd, cX_isBelow, bnd]
    dsimp only
    rw [ifn]
    by_cases hB : numB V (skT V p) 0 (b - 1) = true
    · have hn := numB_i.mp hB
      rw [if_pos hB, if_pos hn.2.1, if_pos (show 0 ≤ numV V (skT V p) ∧ numV V (skT V p) < b by omega)]
      exact ⟨g2, rfl, Rf_t a3 b3, fun _ => b2, fun h => (by rw [hB] at h; cases h)⟩
    · have hnb : ¬ (0 ≤ (if fgT V (skT V p) ≤ 3 then numV V (skT V p) else 1000) ∧ (if fgT V (skT V p) ≤ 3 then numV V (skT V p) else 1000) < b) := by
        intro h
        by_cases h3 : fgT V (skT V p) ≤ 3
        · rw [if_pos h3] at h
          exact hB (numB_i.mpr ⟨h1, h3, h.1, by omega⟩)
        · rw [if_neg h3] at h
          omega
      rw [if_neg hnb]
      exact hfail hB g2 (Rf_t a3 b3)
  · have hB : ¬ numB V (skT V p) 0 (b - 1) = true := fun h => by
      have := (numB_i.mp h).1
      rw [fgT_z c] at this
      omega
    by_cases c1 : skT V p < V 0 6
    · rw [if_pos c1, if_neg (fun h => c ⟨c1, h⟩)]
      exact hfail hB g1 a3
    · rw [if_neg c1, if_neg (show ¬ isF (-1) = true by decide)]
      exact hfail hB g1 a3
theorem cR_readEnd (hR : Rc V W u p g) : RB V u (pEnd V W p) (jRe_readEnd L g) g := by
  obtain ⟨g1, a1, a2, a3⟩ := cR_nextByte (L := L) hR
  have e2 := a2.2.2.2.2.1.2.1
  have hp := a2.2.2.2.2.2.2
  rw [jRe_readEnd_eq, a1, bnd]
  dsimp only
  rw [e2]
  unfold pEnd
  by_cases c : skT V p < V 0 6 ∧ V 5 (skT V p) = 59
  · have c' : (if skT V p < V 0 6 then V 5 (skT V p) else -1) = 59 := by rw [if_pos c.1]; exact c.2
    rw [if_pos c, if_pos c', iw_n (by omega) (by omega)]
    exact ⟨_, rfl, Rf_5 a3, fun _ => Rc_p a2 (by dsimp only; omega) (by dsimp only; omega), fun h => (by cases h)⟩
  · have c' : ¬ (if skT V p < V 0 6 then V 5 (skT V p) else -1) = 59 := by
      by_cases c1 : skT V p < V 0 6
      · rw [if_pos c1]
        exact fun h => c ⟨c1, h⟩
      · rw [if_neg c1]
        omega
    rw [if_neg c, if_neg c']
    exact RB_t a3 (RB_e RB_f)
theorem cRg_isConst (hc : -2147483648 ≤ -1 - w ∧ -1 - w < 2147483648) : jRg_isConstant L w g = some (if 0 ≤ -1 - w ∧ -1 - w < 100 then 1 else 0, g) := by
  rw [jRg_isConstant_eq, iw_s hc, cX_isBelow, bnd]
  dsimp only
  by_cases c : 0 ≤ -1 - w ∧ -1 - w < 100
  · rw [if_pos c]
    exact if_pos (Or.inr rfl)
  · rw [if_neg c]
    exact if_pos (Or.inl rfl)
theorem cR_readRegion (hR : Rc V W u p g) : ∃ g' q, jRe_readRegion L g = some (if numB V p 0 999 = true then numV V p else 1000, g') ∧ Rc V W u q g' ∧ Rf u g g' ∧ (numB V p 0 999 = true → q = p + fgT V p) := by
  have hp := hR.2.2.2.2.2.2
  have e2 := hR.2.2.2.2.1.2.1
  rw [jRe_readRegion_eq, e2, cT_at hR hp.1, bnd, cR_isFigure, bnd]
  dsimp only
  rw [ifz]
  by_cases d : p < V 0 6 ∧ isF (V 5 p) = true
  · have f1 := fgT_1 d.1 d.2
    obtain ⟨g2, b1, b2, b3⟩ := cR_readNumber (L := L) hR
    rw [if_pos d.1, if_pos d.2, b1, bnd]
    refine ⟨g2, p + fgT V p, ?_, b2, b3, fun _ => rfl⟩
    by_cases h3 : fgT V p ≤ 3
    · have hb := numV_b h3
      rw [if_pos h3, if_pos (numB_i.mpr ⟨f1, h3, hb.1, hb.2⟩)]
    · rw [if_neg h3, if_neg (fun h => h3 (numB_i.mp h).2.1)]
  · have hB : ¬ numB V p 0 999 = true := fun h => by
      have := (numB_i.mp h).1
      rw [fgT_z d] at this
      omega
    have d' : ¬ isF (if p < V 0 6 then V 5 p else -1) = true := by
      by_cases d1 : p < V 0 6
      · rw [if_pos d1]
        exact fun h => d ⟨d1, h⟩
      · rw [if_neg d1]
        decide
    rw [if_neg d', if_neg hB]
    exact ⟨g, p, rfl, hR, Rf_r, fun h => absurd h hB⟩
theorem cR_readConstant (hR : Rc V W u p g) (hp : p < V 0 6) : ∃ g' q v, jRe_readConstant L g = some (v, g') ∧ Rc V W u q g' ∧ Rf u g g' ∧ (-2147483648 ≤ -1 - v ∧ -1 - v < 2147483648) ∧ cno v ∧ (numB V (p + 1) 0 99 = true → v = -1 - numV V (p + 1) ∧ q = p + 1 + fgT V (p + 1)) ∧ (¬ numB V (p + 1) 0 99 = true → v = 1000 ∨ v ≤ -101) := by
  have hp0 := hR.2.2.2.2.2.2
  have e2 := hR.2.2.2.2.1.2.1
  have hR1 := Rc_p hR (show 0 ≤ p + 1 by omega) (by omega)
  rw [jRe_readConstant_eq, e2, iw_n (show 0 ≤ p + 1 by omega) (by omega), up_s, cT_at hR1 (by omega), bnd, cR_isFigure, bnd]
  dsimp only
  rw [ifz]
  by_cases d : p + 1 < V 0 6 ∧ isF (V 5 (p + 1)) = true
  · have f1 := fgT_1 d.1 d.2
    obtain ⟨g2, b1, b2, b3⟩ := cR_readNumber (L := L) hR1
    obtain ⟨n, hn⟩ : ∃ n, n = (if fgT V (p + 1) ≤ 3 then numV V (p + 1) else 1000) := ⟨_, rfl⟩
    have hnb : 0 ≤ n ∧ n ≤ 1000 := by
      by_cases h3 : fgT V (p + 1) ≤ 3
      · have := numV_b h3
        rw [if_pos h3] at hn
        omega
      · rw [if_neg h3] at hn
        omega
    rw [if_pos d.1, if_pos d.2, b1, ← hn, bnd, jRg_toldConstant_eq, bnd, iw_s (show -2147483648 ≤ -1 - n ∧ -1 - n < 2147483648 by omega)]
    refine ⟨g2, p + 1 + fgT V (p + 1), -1 - n, rfl, b2, Rf_t (Rf_5 Rf_r) b3, ⟨by omega, by omega⟩, ⟨by omega, by omega⟩, fun h => ?_, fun h => ?_⟩
    · have hb := numB_i.mp h
      rw [if_pos hb.2.1] at hn
      exact ⟨by rw [hn], rfl⟩
    · by_cases h3 : fgT V (p + 1) ≤ 3
      · rw [if_pos h3] at hn
        have hlt : ¬ n ≤ 99 := fun h9 => h (numB_i.mpr ⟨f1, h3, by omega, by omega⟩)
        omega
      · rw [if_neg h3] at hn
        omega
  · have hB : ¬ numB V (p + 1) 0 99 = true := fun h => by
      have := (numB_i.mp h).1
      rw [fgT_z d] at this
      omega
    have d' : ¬ isF (if p + 1 < V 0 6 then V 5 (p + 1) else -1) = true := by
      by_cases d1 : p + 1 < V 0 6
      · rw [if_pos d1]
        exact fun h => d ⟨d1, h⟩
      · rw [if_neg d1]
        decide
    rw [if_neg d']
    exact ⟨_, p + 1, 1000, rfl, hR1, Rf_5 Rf_r, ⟨by omega, by omega⟩, ⟨by omega, by omega⟩, fun h => absurd h hB, fun _ => Or.inl rfl⟩
end RCA
