/-! the class's plan: rings, settings, all of it -/
section PLB
variable {L : Nat} {V W g h : AMem} {a b c d e f i j k kd l m n p q r s t w x : Int}
theorem cPr_move (h0 : 0 ≤ w) (h1 : w ≤ 9) : jPr_move L kd w g = some (mvC kd w, g) := by
  rw [jPr_move_eq]
  unfold mvC
  by_cases h3 : kd = 3
  · rw [if_pos h3, if_pos h3]
  · rw [if_neg h3, if_neg h3]
    by_cases h4 : kd = 4
    · rw [if_pos h4, if_pos h4, iw_n (show 0 ≤ w + 1 by omega) (by omega), tdv (by omega), iw_n (by omega) (by omega)]
    · rw [if_neg h4, if_neg h4]
theorem cPr_change (h0 : 0 ≤ w) (h1 : w ≤ 9) : jPr_change L kd w g = some (chC kd w, g) := by
  rw [jPr_change_eq]
  unfold chC
  by_cases h1 : kd = 1
  · rw [if_pos h1, if_pos h1]
  · rw [if_neg h1, if_neg h1]
    by_cases h2 : kd = 2
    · rw [if_pos h2, if_pos h2]
    · rw [if_neg h2, if_neg h2]
      by_cases h4 : kd = 4
      · rw [if_neg (by omega), if_pos h4, if_pos h4, iw_n (show 0 ≤ w + 1 by omega) (by omega), tdv (by omega), iw_n (show 0 ≤ (w + 1) / 2 by omega) (by omega), iw_n (by omega) (by omega)]
      · rw [if_neg h4, if_neg h4]
        split <;> rfl
theorem cPr_isRingChanged (h0 : 0 ≤ w) (h1 : w ≤ 9) (m0 : 1 ≤ m) (m1 : m ≤ 6) : jPr_isRingChanged L kd w m g = some (if chC kd w = 0 ∨ (m + 1) * mvC kd w ≤ (m - 1) * chC kd w then 0 else 1, g) := by
  have hmv := mvC_b (kd := kd) h0 h1
  have hch := chC_b (kd := kd) h0 h1
  have hx1 : 0 ≤ (m - 1) * chC kd w := Int.mul_nonneg (by omega) hch.1
  have hx2 : (m - 1) * chC kd w ≤ 5 * 9 := Int.mul_le_mul (by omega) hch.2 hch.1 (by omega)
  have hx3 : 0 ≤ (m + 1) * mvC kd w := Int.mul_nonneg (by omega) hmv.1
  have hx4 : (m + 1) * mvC kd w ≤ 7 * 9 := Int.mul_le_mul (by omega) hmv.2 hmv.1 (by omega)
  rw [jPr_isRingChanged_eq, cPr_change h0 h1, bnd]
  dsimp only
  by_cases c0 : chC kd w = 0
  · rw [if_pos (by omega), if_pos (Or.inl c0)]
  · rw [if_neg (by omega), cPr_move h0 h1, bnd]
    dsimp only
    rw [iw_s (show -2147483648 ≤ m - 1 ∧ m - 1 < 2147483648 by omega), iw_s (show -2147483648 ≤ m + 1 ∧ m + 1 < 2147483648 by omega), iw_n hx1 (by omega), iw_n hx3 (by omega)]
    by_cases c1 : (m + 1) * mvC kd w ≤ (m - 1) * chC kd w
    · rw [if_pos c1, if_pos (Or.inr c1)]
    · rw [if_neg c1, if_neg (fun h => by rcases h with h | h; exact c0 h; exact c1 h)]
theorem cP_openAt (hV : VaV V) (he0 : 0 ≤ e) (he1 : e < V 0 1) (hq : q = 118 ∨ q = 125) (hP : PlW L V e kd W q g) (hj0 : 0 ≤ j) (hj1 : j < V 1 (V 3 e)) (ho : W 4 j ≠ 0) : jPl_openAt L q (V (10 + V 3 e) j) g = some (j, g) := by
  have hn := edg_n hV he0 he1
  have hB := bOK_e hV he0 he1
  rw [jPl_openAt_eq L q _ g (kP' hq)]
  have hmain : ∀ (m : Nat) (i : Int), 0 ≤ i → i + m = j → jPl_openAt_2 L q (V (10 + V 3 e) j) i g = some (j, g) := by
    intro m
    induction m with
    | zero =>
      intro i i0 i1
      have hij : i = j := by omega
      subst hij
      have hi := hP.2.2.2 i i0 hj1
      rw [jPl_openAt_2_eq L q _ _ g (kP' hq), hP.1.2.2.1, if_neg (by omega), if_pos (by omega), if_neg (show ¬ g (q + 6) i = 0 by rw [hi.1]; exact ho), if_pos hP.2.1.1, if_pos (by rw [hP.2.1.2.1]; omega), if_neg (show ¬ g (g q 5) i ≠ V (10 + V 3 e) i by rw [hP.2.1.2.2.2 i i0 hj1]; simp)]
    | succ m ih =>
      intro i i0 i1
      have hi := hP.2.2.2 i i0 (by omega)
      have ih := ih (i + 1) (by omega) (by omega)
      rw [jPl_openAt_2_eq L q _ _ g (kP' hq), hP.1.2.2.1, if_neg (by omega), if_pos (show 0 ≤ i ∧ i < 6 by omega), if_pos hP.2.1.1, if_pos (show 0 ≤ i ∧ i < aln (SH L) (g q 5) by rw [hP.2.1.2.1]; omega), iw_n (by omega) (by omega)]
      by_cases c : g (q + 6) i = 0
      · rw [if_pos c]
        exact ih
      · rw [if_neg c, if_pos (show g (g q 5) i ≠ V (10 + V 3 e) j by
          rw [hP.2.1.2.2.2 i i0 (by omega)]
          exact fun h => by have := bOK_d hB i0 (by omega) hj0 hj1 h; omega)]
        exact ih
  exact hmain j.toNat 0 (by omega) (by omega)
theorem cP_ringSize (hV : VaV V) (he0 : 0 ≤ e) (he1 : e < V 0 1) (hq : q = 118 ∨ q = 125) (hP : PlW L V e kd W q g) (sq : Int → Int) (m2 : 2 ≤ m) (m6 : m ≤ V 1 (V 3 e)) (h0 : sq 0 = p) (hm : sq m = p) (hr : ∀ k, 0 ≤ k → k ≤ m → 0 ≤ sq k ∧ sq k < V 1 (V 3 e) ∧ W 4 (sq k) ≠ 0) (h5 : ∀ k, 0 ≤ k → k < m → W 5 (sq k) = V (10 + V 3 e) (sq (k + 1))) (hd : ∀ k l, 0 ≤ k → k < l → l < m → sq k ≠ sq l) : jPl_ringSize L q p g = some (m, g) := by
  have hn := edg_n hV he0 he1
  have r0 := hr 0 (by omega) (by omega)
  have r1 := hr 1 (by omega) (by omega)
  have e0 := h5 0 (by omega) (by omega)
  rw [h0] at r0 e0
  have hp := hP.2.2.2 p r0.1 r0.2.1
  rw [jPl_ringSize_eq L q p g (kP' hq), if_pos (by omega), hp.2, e0, show (0 : Int) + 1 = 1 by rfl, cP_openAt hV he0 he1 hq hP r1.1 r1.2.1 r1.2.2, bnd]
  have hmain : ∀ (k : Nat) (t : Int), 1 ≤ t → t + k = m → jPl_ringSize_13 L q p (sq t) t g = some (m, g) := by
    intro k
    induction k with
    | zero =>
      intro t t0 t1
      have e1 : t = m := by omega
      subst e1
      have rt := hr t (by omega) (by omega)
      rw [jPl_ringSize_13_eq L q p _ _ g (kP' hq)]
      by_cases c : 6 ≤ t
      · rw [if_pos c]
      · rw [if_neg c, if_neg (by omega), if_pos hm]
    | succ k ih =>
      intro t t0 t1
      have rt := hr t (by omega) (by omega)
      have rt1 := hr (t + 1) (by omega) (by omega)
      have hi := hP.2.2.2 (sq t) rt.1 rt.2.1
      have hne : sq t ≠ p := fun h => hd 0 t (by omega) (by omega) (by omega) (by rw [h0, h])
      rw [jPl_ringSize_13_eq L q p _ _ g (kP' hq), if_neg (by omega), if_neg (by omega), if_neg hne, if_pos (by omega), hi.2, h5 t (by omega) (by omega), cP_openAt hV he0 he1 hq hP rt1.1 rt1.2.1 rt1.2.2, bnd, iw_n (by omega) (by omega)]
      exact ih (t + 1) (by omega) (by omega)
  exact hmain (m - 1).toNat 1 (by omega) (by omega)
theorem cP_chg (hV : VaV V) (he0 : 0 ≤ e) (he1 : e < V 0 1) (hq : q = 118 ∨ q = 125) (sq : Int → Int) (m : Int) (m6 : m ≤ V 1 (V 3 e)) (hr : ∀ k, 0 ≤ k → k ≤ m → 0 ≤ sq k ∧ sq k < V 1 (V 3 e)) (hd : ∀ k l, 0 ≤ k → k < l → l < m → sq k ≠ sq l) : ∀ (k : Nat) (t : Int) (W g : AMem) (y : AVal), 0 ≤ t → t + k + 1 = m → PlW L V e kd W q g → 0 ≤ W 0 0 → W 0 0 + k ≤ 9 → (∀ j, t ≤ j → j < m → W 4 (sq j) ≠ 0 ∧ W 5 (sq j) = V (10 + V 3 e) (sq (j + 1))) → ∃ g', jPl_changeRing_5 L q p m (sq t) (t + 1) y g = some g' ∧ PlW L V e kd (pCh V (V 3 e) k W (sq t)) q g' ∧ Pf q g g'
  | 0, t, W, g, y, h0, h1, hP, w0, w1, h2 => by
    have ht := hr t h0 (by omega)
    obtain ⟨g1, a1, a2, a3⟩ := cP_close hV he0 he1 hq hP ht.1 ht.2 (h2 t (by omega) (by omega)).1
    refine ⟨g1, ?_, a2, a3⟩
    rw [jPl_changeRing_5_eq L q p m _ _ y g (kP' hq), if_pos (by omega), if_neg (by omega), a1, bnd]
  | k + 1, t, W, g, y, h0, h1, hP, w0, w1, h2 => by
    have hn := edg_n hV he0 he1
    have hB := bOK_e hV he0 he1
    have ht := hr t h0 (by omega)
    have ht1 := hr (t + 1) (by omega) (by omega)
    have ho := h2 t (by omega) (by omega)
    have hi := hP.2.2.2 _ ht.1 ht.2
    obtain ⟨g1, a1, a2, a3⟩ := cP_add (s := 1) (t := V (10 + V 3 e) (sq t)) (f := W 5 (sq t)) hq hP w0 (by omega)
    have ho1 := (h2 (t + 1) (by omega) (by omega)).1
    have hi2 := a2.2.2.2 _ ht.1 ht.2
    rw [pA_5] at hi2
    have hop := cP_openAt hV he0 he1 hq a2 ht1.1 ht1.2 (by rw [pA_4]; exact ho1)
    obtain ⟨g2, b1, b2, b3⟩ := cP_close hV he0 he1 hq a2 ht.1 ht.2 (by rw [pA_4]; exact ho.1)
    obtain ⟨g3, c1, c2, c3⟩ := cP_chg hV he0 he1 hq sq m m6 hr hd k (t + 1) (pC1 V W (V 3 e) (sq t)) g2 (vI (sq (t + 1))) (by omega) (by omega) b2 (by rw [pC1_0]; omega) (by rw [pC1_0]; omega) (fun j j0 j1 => by
      rw [pC1_4, pC1_5, if_neg (fun e => hd t j h0 (by omega) j1 e.symm)]
      exact h2 j (by omega) j1)
    refine ⟨g3, ?_, ?_, Pf_t a3 (Pf_t b3 c3)⟩
    · have c6 : 0 ≤ sq t ∧ sq t < 6 := by omega
      rw [jPl_changeRing_5_eq L q p m _ _ y g (kP' hq), if_neg (by omega), if_neg (by omega), if_pos hP.2.1.1, if_pos (by rw [hP.2.1.2.1]; exact c6), if_pos c6, hP.2.1.2.2.2 _ ht.1 ht.2, hi.2, a1, bnd, if_pos c6, hi2.2, ho.2, hop, bnd, b1, bnd, iw_n (by omega) (by omega)]
      exact c1
    · rw [pCh, fw_p hB ht1.1 ht1.2 ho.2]
      exact c2
theorem cP_breakRing (hV : VaV V) (he0 : 0 ≤ e) (he1 : e < V 0 1) (hq : q = 118 ∨ q = 125) (hP : PlW L V e kd W q g) (hI : BI V W (V 3 e)) (hs : stk V W (V 3 e)) (hw : 2 * W 0 0 + 3 * opC W (V 1 (V 3 e)) ≤ 18) (h0 : 0 ≤ p) (h1 : p < V 1 (V 3 e)) (h2 : W 4 p ≠ 0) : ∃ g', jPl_breakRing L q p g = some g' ∧ PlW L V e kd (pBr V W (V 3 e) kd p) q g' ∧ Pf q g g' := by
  have hn := edg_n hV he0 he1
  have hB := bOK_e hV he0 he1
  obtain ⟨m, sq, m1, m2, m3, m4, m5, m6, m7, m8⟩ := rng hB hI hs h0 h1 h2
  have hp := isRg_b (hB.2.1 p h0 h1)
  have c6 : 0 ≤ p ∧ p < 6 := by omega
  have cA : ∀ G, PlW L V e kd W q G → 0 ≤ p ∧ p < aln (SH L) (G q 5) := fun G hG => by rw [hG.2.1.2.1]; exact c6
  have hl := pCh_l hB sq m (fun k k0 k1 => ⟨(m5 k k0 k1).1, (m5 k k0 k1).2.1⟩) m7 (m - 1).toNat 0 W (by omega) (by omega) hI (fun j j0 j1 => ⟨(m5 j j0 (by omega)).2.2, m6 j j0 j1⟩)
  have hop := opC_0 (W := pCh V (V 3 e) (m - 1).toNat W (sq 0)) (n := V 1 (V 3 e))
  have hw0 := hI.1
  have e116 : g q 4 = kd := hP.1.2.1
  rw [jPl_breakRing_eq L q p g (kP' hq), if_pos h0, cP_ringSize hV he0 he1 hq hP sq m1 m2 m3 m4 m5 m6 m7, bnd]
  dsimp only
  rw [if_pos hP.2.1.1, if_pos (cA g hP), hP.2.1.2.2.2 p h0 h1, cRg_width (by omega) (by omega), bnd]
  dsimp only
  rw [e116, cPr_isRingChanged (by omega) (by omega) (by omega) (by omega), bnd]
  unfold pBr
  rw [m8]
  dsimp only
  by_cases c : chC kd (V (10 + V 3 e) p % 10) = 0 ∨ (m + 1) * mvC kd (V (10 + V 3 e) p % 10) ≤ (m - 1) * chC kd (V (10 + V 3 e) p % 10)
  · rw [if_pos c, if_pos c, if_pos rfl, jRg_asTold_eq, bnd, iw_n (show 0 ≤ (10 : Int) * 32 by omega) (by omega), iw_n (by omega) (by omega)]
    dsimp only
    have hopp : 1 ≤ opC W (V 1 (V 3 e)) := by
      by_cases hz : opC W (V 1 (V 3 e)) = 0
      · have := cnB_z hz p h0 (by omega)
        simp at this
        exact absurd this h2
      · have := opC_0 (W := W) (n := V 1 (V 3 e))
        omega
    obtain ⟨g1, a1, a2, a3⟩ := cP_add (s := 0) (t := 320 + V (10 + V 3 e) p % 10) (f := V (10 + V 3 e) p) hq hP hw0 (by omega)
    obtain ⟨g2, b1, b2, b3⟩ := cP_lies (f := V (10 + V 3 e) p) (t := 320 + V (10 + V 3 e) p % 10) hV he0 he1 hq a2
    rw [if_pos hP.2.1.1, if_pos (cA g hP), show (10 : Int) * 32 + V (10 + V 3 e) p % 10 = 320 + V (10 + V 3 e) p % 10 by omega, hP.2.1.2.2.2 p h0 h1, a1, bnd, if_pos a2.2.1.1, if_pos (by rw [a2.2.1.2.1]; exact c6), a2.2.1.2.2.2 p h0 h1, b1, bnd]
    exact ⟨g2, rfl, b2, Pf_t a3 b3⟩
  · rw [if_neg c, if_neg c, if_neg (by omega), jPl_changeRing_eq L q p m g (kP' hq)]
    obtain ⟨g1, a1, a2, a3⟩ := cP_chg (L := L) (kd := kd) (p := p) hV he0 he1 hq sq m m2 (fun k k0 k1 => ⟨(m5 k k0 k1).1, (m5 k k0 k1).2.1⟩) m7 (m - 1).toNat 0 W g vU (by omega) (by omega) hP hw0 (by omega) (fun j j0 j1 => ⟨(m5 j j0 (by omega)).2.2, m6 j j0 j1⟩)
    rw [m3] at a1 a2
    rw [show (0 : Int) + 1 = 1 by rfl] at a1
    rw [a1, bnd]
    exact ⟨g1, rfl, a2, a3⟩
end PLB
