/-! the reference breaks a ring, and goes on while any is open -/
section BRK
variable {L : Nat} {V W g : AMem} {b c d e f i j k kd n p q r t w x : Int}
theorem cM_moveCost (h0 : 0 ≤ w) (h1 : w ≤ 9) : jM_moveCost L kd w g = some (mvC kd w, g) := by
  rw [jM_moveCost_eq]
  unfold mvC
  by_cases h3 : kd = 3
  · rw [if_neg (by simp [h3]), if_pos h3]
  · rw [if_pos h3, if_neg h3]
    by_cases h4 : kd = 4
    · rw [if_neg (by simp [h4]), if_pos h4, iw_n (show 0 ≤ w + 1 by omega) (by omega), tdv (by omega), iw_n (by omega) (by omega)]
    · rw [if_pos h4, if_neg h4]
theorem cM_changeCost (h0 : 0 ≤ w) (h1 : w ≤ 9) : jM_changeCost L kd w g = some (chC kd w, g) := by
  rw [jM_changeCost_eq]
  unfold chC
  by_cases h1 : kd = 1
  · rw [if_neg (by simp [h1]), if_pos h1]
  · rw [if_pos h1, if_neg h1]
    by_cases h2 : kd = 2
    · rw [if_neg (by simp [h2]), if_pos h2]
    · rw [if_pos h2, if_neg h2]
      by_cases h4 : kd = 4
      · rw [if_neg (by simp [h4]), if_pos h4, iw_n (show 0 ≤ w + 1 by omega) (by omega), tdv (by omega), iw_n (show 0 ≤ (w + 1) / 2 by omega) (by omega), iw_n (by omega) (by omega)]
      · rw [if_pos h4, if_neg h4]
theorem mvC_b (h0 : 0 ≤ w) (h1 : w ≤ 9) : 0 ≤ mvC kd w ∧ mvC kd w ≤ 9 := by
  unfold mvC
  repeat' split
  all_goals omega
theorem chC_b (h0 : 0 ≤ w) (h1 : w ≤ 9) : 0 ≤ chC kd w ∧ chC kd w ≤ 9 := by
  unfold chC
  repeat' split
  all_goals omega
theorem bOK_e (hV : VaV V) (he0 : 0 ≤ e) (he1 : e < V 0 1) : bOK V (V 3 e) := by
  have hE := hV.2.2.2.2.2.1 e he0 he1
  exact hV.2.2.2.2.1 _ hE.2.1.1 hE.2.1.2
theorem cM_spare (hV : VaV V) (hR : RfV V g) (he0 : 0 ≤ e) (he1 : e < V 0 1) (hP : RfP W (V 1 (V 3 e)) g) (hs0 : 0 ≤ W 0 0) (hs1 : W 0 0 < 24) : ∃ g', ((jM_comes L 0 (320 + V (10 + V 3 e) q % 10) (V (10 + V 3 e) q) g).bind (fun h => (jM_lies L e (V (10 + V 3 e) q) (320 + V (10 + V 3 e) q % 10) h).bind (fun j => some j))) = some g' ∧ RfP (pSp V W (V 3 e) q) (V 1 (V 3 e)) g' ∧ Sp g g' := by
  obtain ⟨g1, h1, hP1, hS1⟩ := cM_comes (L := L) (s := 0) (t := 320 + V (10 + V 3 e) q % 10) (f := V (10 + V 3 e) q) hP hs0 hs1
  obtain ⟨g2, h2, hP2, hS2⟩ := cM_lies (L := L) (f := V (10 + V 3 e) q) (t := 320 + V (10 + V 3 e) q % 10) hV (RfV_sp hR hS1) he0 he1 hP1
  refine ⟨g2, ?_, hP2, Sp_t hS1 hS2⟩
  rw [h1, bnd, h2, bnd]
theorem cM_chg (hV : VaV V) (he0 : 0 ≤ e) (he1 : e < V 0 1) (s : Int → Int) (m : Int) (hm : m ≤ 6) (hr : ∀ k, 0 ≤ k → k ≤ m → 0 ≤ s k ∧ s k < V 1 (V 3 e)) (hd : ∀ k l, 0 ≤ k → k < l → l < m → s k ≠ s l) : ∀ (k : Nat) (t : Int) (W g : AMem), 0 ≤ t → t + k + 1 = m → RfV V g → RfP W (V 1 (V 3 e)) g → 0 ≤ W 0 0 → W 0 0 + k < 24 → (∀ j, t ≤ j → j < m → W 4 (s j) ≠ 0 ∧ W 5 (s j) = V (10 + V 3 e) (s (j + 1))) → ∃ g', jM_breaks_124 L e q kd r w m c (s t) (t + 1) g = some g' ∧ RfP (pCh V (V 3 e) k W (s t)) (V 1 (V 3 e)) g' ∧ Sp g g'
  | 0, t, W, g, h0, h1, hR, hP, w0, w1, h2 => by
    have hn := edg_n hV he0 he1
    have ht := hr t h0 (by omega)
    refine ⟨up g 148 (s t) 0, ?_, (RfP_cl (w := 0) hP ht.1).resolve_right (by simp), Sp_u Sp_r (by unfold spR; omega)⟩
    rw [jM_breaks_124_eq, if_pos (by omega), if_pos ⟨by omega, Or.inl rfl⟩]
  | k + 1, t, W, g, h0, h1, hR, hP, w0, w1, h2 => by
    have hn := edg_n hV he0 he1
    have hB := bOK_e hV he0 he1
    have ht := hr t h0 (by omega)
    have ht1 := hr (t + 1) (by omega) (by omega)
    have ho := h2 t (by omega) (by omega)
    obtain ⟨g1, q1, hP1, hS1⟩ := cM_comes (L := L) (s := 1) (t := V (10 + V 3 e) (s t)) (f := W 5 (s t)) hP w0 (by omega)
    have hP2 : RfP (pC1 V W (V 3 e) (s t)) (V 1 (V 3 e)) (up g1 148 (s t) 0) := (RfP_cl (w := 0) hP1 ht.1).resolve_right (by simp)
    have hS2 : Sp g (up g1 148 (s t) 0) := Sp_u hS1 (by unfold spR; omega)
    have e5 : up g1 148 (s t) 0 149 (s t) = W 5 (s t) := by
      rw [up_n (by omega), (hP1.2.2 _ ht.1 ht.2).2 (by rw [pA_4]; exact ho.1), pA_5]
    obtain ⟨g', q2, hP3, hS3⟩ := cM_chg hV he0 he1 s m hm hr hd k (t + 1) (pC1 V W (V 3 e) (s t)) (up g1 148 (s t) 0) (by omega) (by omega) (RfV_sp hR hS2) hP2 (by rw [pC1_0]; omega) (by rw [pC1_0]; omega) (fun j j0 j1 => by
      rw [pC1_4, pC1_5, if_neg (fun e => hd t j h0 (by omega) j1 e.symm)]
      exact h2 j (by omega) j1)
    refine ⟨g', ?_, ?_, Sp_t hS2 hS3⟩
    · rw [jM_breaks_124_eq, if_neg (by omega), cM_parameterOf hV hR he0 he1 ht.1 ht.2, bnd]
      dsimp only
      rw [if_pos (by omega), (hP.2.2 _ ht.1 ht.2).2 ho.1, q1, bnd, if_pos ⟨by omega, Or.inl rfl⟩, if_pos (by omega), e5, cM_whoHas hV (RfV_sp hR hS2) he0 he1, bnd, ho.2, whI_p hB ht1.1 ht1.2, iw_n (by omega) (by omega)]
      exact q2
    · rw [pCh, fw_p hB ht1.1 ht1.2 ho.2]
      exact hP3
theorem cM_breaks (hV : VaV V) (hR : RfV V g) (he0 : 0 ≤ e) (he1 : e < V 0 1) (hP : RfP W (V 1 (V 3 e)) g) (hI : BI V W (V 3 e)) (hs : stk V W (V 3 e)) (hw : W 0 0 ≤ 10) (h0 : 0 ≤ q) (h1 : q < V 1 (V 3 e)) (h2 : W 4 q ≠ 0) : ∃ g', jM_breaks L e q kd g = some g' ∧ RfP (pBr V W (V 3 e) kd q) (V 1 (V 3 e)) g' ∧ Sp g g' := by
  have hn := edg_n hV he0 he1
  have hB := bOK_e hV he0 he1
  obtain ⟨m, s, m1, m2, m3, m4, m5, m6, m7, m8⟩ := rng hB hI hs h0 h1 h2
  have hr : ∀ k, 0 ≤ k → k ≤ m → 0 ≤ s k ∧ s k < V 1 (V 3 e) := fun k k0 k1 => ⟨(m5 k k0 k1).1, (m5 k k0 k1).2.1⟩
  have hp := isRg_b (hB.2.1 q h0 h1)
  have ht1 := hr 1 (by omega) (by omega)
  have e1 := m6 0 (by omega) (by omega)
  rw [m3, show (0 : Int) + 1 = 1 by rfl] at e1
  rw [jM_breaks_eq, cM_parameterOf hV hR he0 he1 h0 h1, bnd]
  dsimp only
  rw [cM_widthOf (by omega) (by omega), bnd]
  dsimp only
  rw [if_pos (by omega), (hP.2.2 q h0 h1).2 h2, cM_whoHas hV hR he0 he1, bnd, e1, whI_p hB ht1.1 ht1.2]
  have hmv := mvC_b (kd := kd) (w := V (10 + V 3 e) q % 10) (by omega) (by omega)
  have hch := chC_b (kd := kd) (w := V (10 + V 3 e) q % 10) (by omega) (by omega)
  unfold pBr
  rw [m8]
  have hx1 : 0 ≤ (m - 1) * chC kd (V (10 + V 3 e) q % 10) := Int.mul_nonneg (by omega) hch.1
  have hx2 : (m - 1) * chC kd (V (10 + V 3 e) q % 10) ≤ 5 * 9 := Int.mul_le_mul (by omega) hch.2 hch.1 (by omega)
  have hx3 : 0 ≤ (m + 1) * mvC kd (V (10 + V 3 e) q % 10) := Int.mul_nonneg (by omega) hmv.1
  have hx4 : (m + 1) * mvC kd (V (10 + V 3 e) q % 10) ≤ 7 * 9 := Int.mul_le_mul (by omega) hmv.2 hmv.1 (by omega)
  have hend : ∃ g', jM_breaks_31 L e q kd (V (10 + V 3 e) q) (V (10 + V 3 e) q % 10) m (s m) g = some g' ∧ RfP (if chC kd (V (10 + V 3 e) q % 10) = 0 ∨ (m + 1) * mvC kd (V (10 + V 3 e) q % 10) ≤ (m - 1) * chC kd (V (10 + V 3 e) q % 10) then pSp V W (V 3 e) q else pCh V (V 3 e) (m - 1).toNat W q) (V 1 (V 3 e)) g' ∧ Sp g g' := by
    rw [jM_breaks_31_eq, if_pos m4, cM_changeCost (by omega) (by omega), bnd]
    dsimp only
    rw [iw_n (show 0 ≤ 320 + V (10 + V 3 e) q % 10 by omega) (by omega)]
    by_cases c0 : chC kd (V (10 + V 3 e) q % 10) = 0
    · rw [if_pos c0, if_pos (Or.inl c0)]
      exact cM_spare hV hR he0 he1 hP hI.1 (by omega)
    · rw [if_neg c0, cM_moveCost (by omega) (by omega), bnd]
      dsimp only
      rw [iw_s (show -2147483648 ≤ m - 1 ∧ m - 1 < 2147483648 by omega), iw_s (show -2147483648 ≤ m + 1 ∧ m + 1 < 2147483648 by omega), iw_n hx1 (by omega), iw_n hx3 (by omega)]
      by_cases c1 : (m + 1) * mvC kd (V (10 + V 3 e) q % 10) ≤ (m - 1) * chC kd (V (10 + V 3 e) q % 10)
      · rw [if_neg (by omega), if_pos (Or.inr c1)]
        exact cM_spare hV hR he0 he1 hP hI.1 (by omega)
      · rw [if_pos (by omega), if_neg (fun h => by rcases h with h | h; exact c0 h; exact c1 h)]
        have := cM_chg (L := L) (q := q) (kd := kd) (r := V (10 + V 3 e) q) (w := V (10 + V 3 e) q % 10) (c := chC kd (V (10 + V 3 e) q % 10)) hV he0 he1 s m (by omega) hr m7 (m - 1).toNat 0 W g (by omega) (by omega) hR hP hI.1 (by omega) (fun j j0 j1 => ⟨(m5 j j0 (by omega)).2.2, m6 j j0 j1⟩)
        rw [m3] at this
        exact this
  have hstep : ∀ (k : Nat) (t : Int), 1 ≤ t → t + k = m → jM_breaks_31 L e q kd (V (10 + V 3 e) q) (V (10 + V 3 e) q % 10) t (s t) g = jM_breaks_31 L e q kd (V (10 + V 3 e) q) (V (10 + V 3 e) q % 10) m (s m) g := by
    intro k
    induction k with
    | zero =>
      intro t t0 t1
      rw [show t = m by omega]
    | succ k ih =>
      intro t t0 t1
      have ht := m5 t (by omega) (by omega)
      have ht1 := hr (t + 1) (by omega) (by omega)
      rw [← ih (t + 1) (by omega) (by omega), jM_breaks_31_eq, if_neg (fun h => m7 0 t (by omega) (by omega) (by omega) (by rw [m3, h])), if_pos (by omega), (hP.2.2 _ ht.1 ht.2.1).2 ht.2.2, cM_whoHas hV hR he0 he1, bnd, m6 t (by omega) (by omega), whI_p hB ht1.1 ht1.2, iw_n (by omega) (by omega)]
  dsimp only
  rw [hstep (m - 1).toNat 1 (by omega) (by omega)]
  exact hend
end BRK
