/-! the reference's answers: the other plain calls -/
section OPS2
variable {L : Nat} {V g : AMem} {a b c e f i k r t w : Int}
theorem oWeight_V (hV : VaV V) : VaV (oWeight V e w).2 := by
  unfold oWeight
  split
  · rename_i he
    split
    · rename_i hw
      dsimp only
      have n : ∀ a k, a ≠ 4 → up V 4 e w a k = V a k := fun a k q => up_n (by omega)
      refine VaV_g hV (fun a k q => n a k (by omega)) (by rw [n _ _ (by omega)]; exact hV.2.2.1) (by rw [n _ _ (by omega)]; exact hV.2.2.2.1) (fun c q0 q1 => ?_) (fun i q0 q1 => ?_)
      · by_cases q : c = e
        · rw [q, up_s]
          exact hw
        · rw [up_n (by omega)]
          exact (hV.2.2.2.2.2.1 c q0 q1).2.2.1
      · rw [n _ _ (by omega)] at q1
        rw [n _ _ (by omega)]
        exact hV.2.2.2.2.2.2 i q0 q1
    · exact rB_V hV
  · exact rB_V hV
theorem cM_weight (hV : VaV V) (hR : RfV V g) : RO (oWeight V e w) (jM_weight L e w g) g := by
  have h1 := hV.2.1
  rw [jM_weight_eq, cM_isEdge hV hR, bnd]
  simp only [bns, ifz, ifn, cM_in, bnd]
  unfold oWeight
  by_cases he : 0 ≤ e ∧ e < V 0 1
  · rw [if_pos he, if_pos he]
    by_cases hw : 0 ≤ w ∧ w ≤ 99
    · rw [if_pos hw, if_pos hw, if_pos (by omega), if_pos (by omega), (hR.2.2.1 e he.1 he.2).2.2.1]
      have n : ∀ a k, a ≠ 4 → up V 4 e w a k = V a k := fun a k q => up_n (by omega)
      have m : ∀ a k, a ≠ 143 → up g 143 e w a k = g a k := fun a k q => up_n (by omega)
      refine ⟨_, rfl, ?_, Lo_u Lo_r (by omega)⟩
      dsimp only
      refine RfV_g hV hR (fun a k q => n a k (by omega)) (fun a k q => m a k (by omega)) ?_ (fun c q0 q1 => ?_) (fun i q0 q1 => ?_)
      · rw [n _ _ (by omega), n _ _ (by omega), n _ _ (by omega), n _ _ (by omega), n _ _ (by omega), m _ _ (by omega), m _ _ (by omega), m _ _ (by omega), m _ _ (by omega), m _ _ (by omega)]
        exact hR.1.2.2
      · by_cases q : c = e
        · rw [q, up_s, up_s]
        · rw [up_n (by omega), up_n (by omega)]
          exact (hR.2.2.1 c q0 q1).2.2.1
      · rw [n _ _ (by omega)] at q1
        rw [n _ _ (by omega), m _ _ (by omega)]
        exact hR.2.2.2 i q0 q1
    · rw [if_neg hw, if_neg hw]
      exact RO_B hR
  · rw [if_neg he, if_neg he]
    exact RO_B hR
theorem oMachine_V (hV : VaV V) : VaV (oMachine V k).2 := by
  unfold oMachine
  split
  · rename_i hk
    dsimp only
    have n : ∀ a j, a ≠ 0 ∨ j ≠ 2 → up V 0 2 k a j = V a j := fun a k q => up_n (by omega)
    refine VaV_g hV (fun a k q => n a k (by omega)) (by rw [up_s]; exact hk) (by rw [n _ _ (by omega)]; exact hV.2.2.2.1) (fun c q0 q1 => ?_) (fun i q0 q1 => ?_)
    · rw [n _ _ (by omega)]
      exact (hV.2.2.2.2.2.1 c q0 q1).2.2.1
    · rw [n _ _ (by omega)] at q1
      rw [n _ _ (by omega)]
      exact hV.2.2.2.2.2.2 i q0 q1
  · exact rB_V hV
theorem cM_machine (hV : VaV V) (hR : RfV V g) : RO (oMachine V k) (jM_machine L k g) g := by
  rw [jM_machine_eq, cM_in, bnd]
  simp only [bns, ifn]
  unfold oMachine
  by_cases hk : 0 ≤ k ∧ k ≤ 4
  · rw [if_pos hk, if_pos hk, hR.1.2.2.1]
    have n : ∀ a j, a ≠ 0 ∨ j ≠ 2 → up V 0 2 k a j = V a j := fun a k q => up_n (by omega)
    have m : ∀ a j, a ≠ 137 ∨ j ≠ 3 → up g 137 3 k a j = g a j := fun a k q => up_n (by omega)
    refine ⟨_, rfl, ?_, Lo_u Lo_r (by omega)⟩
    dsimp only
    refine RfV_g hV hR (fun a k q => n a k (by omega)) (fun a k q => m a k (by omega)) ?_ (fun c q0 q1 => ?_) (fun i q0 q1 => ?_)
    · rw [up_s, up_s, n _ _ (by omega), n _ _ (by omega), n _ _ (by omega), n _ _ (by omega), m _ _ (by omega), m _ _ (by omega), m _ _ (by omega), m _ _ (by omega)]
      exact ⟨rfl, hR.1.2.2.2⟩
    · rw [n _ _ (by omega), m _ _ (by omega)]
      exact (hR.2.2.1 c q0 q1).2.2.1
    · rw [n _ _ (by omega)] at q1
      rw [n _ _ (by omega), m _ _ (by omega)]
      exact hR.2.2.2 i q0 q1
  · rw [if_neg hk, if_neg hk]
    exact RO_B hR
theorem oOf_V (hV : VaV V) : VaV (oOf V e w).2 := by
  unfold oOf
  split
  · split
    · exact hV
    · exact rB_V hV
  · exact rB_V hV
theorem cM_of (hV : VaV V) (hR : RfV V g) : RO (oOf V e w) (jM_of L e w g) g := by
  have h1 := hV.2.1
  rw [jM_of_eq, cM_isEdge hV hR, bnd]
  simp only [bns, ifz, ifn, cM_in, bnd]
  unfold oOf
  by_cases he : 0 ≤ e ∧ e < V 0 1
  · have hE := hR.2.2.1 e he.1 he.2
    rw [if_pos he, if_pos he, cM_isClear hV hR he.1 he.2, bnd, cM_whereOf hV hR he.1 he.2]
    simp only [ifz]
    by_cases hw : 0 ≤ w ∧ w ≤ 4
    · rw [if_pos hw, if_pos hw]
      by_cases h0 : w = 0
      · rw [if_pos h0, if_pos h0, if_pos (by omega), hE.1]
        exact RO_s hR
      · rw [if_neg h0, if_neg h0]
        by_cases h1 : w = 1
        · rw [if_pos h1, if_pos h1, if_pos (by omega), hE.2.1]
          exact RO_s hR
        · rw [if_neg h1, if_neg h1]
          by_cases h2 : w = 2
          · rw [if_pos h2, if_pos h2, if_pos (by omega), hE.2.2.1]
            exact RO_s hR
          · rw [if_neg h2, if_neg h2]
            by_cases h3 : w = 3
            · rw [if_pos h3, if_pos h3]
              cases clB V e
              · rw [if_neg (by simp), if_neg (by simp)]
                exact RO_s hR
              · rw [if_pos rfl, if_pos rfl]
                exact RO_s hR
            · rw [if_neg h3, if_neg h3]
              exact RO_s hR
    · rw [if_neg hw, if_neg hw]
      exact RO_B hR
  · rw [if_neg he, if_neg he]
    exact RO_B hR
theorem oAbout_V (hV : VaV V) : VaV (oAbout V b w).2 := by
  unfold oAbout
  split
  · split
    · exact hV
    · exact rB_V hV
  · exact rB_V hV
theorem cM_about (hV : VaV V) (hR : RfV V g) : RO (oAbout V b w) (jM_about L b w g) g := by
  have h1 := hV.1
  rw [jM_about_eq, cM_isBlock hV hR, bnd]
  simp only [bns, ifz, ifn, cM_in, bnd]
  unfold oAbout
  by_cases hb : 0 ≤ b ∧ b < V 0 0
  · have hB := hR.2.1 b hb.1 hb.2
    rw [if_pos hb, if_pos hb, cM_edgesTo hV hR, cM_edgesFrom hV hR]
    by_cases hw : 0 ≤ w ∧ w ≤ 2
    · rw [if_pos hw, if_pos hw]
      by_cases h0 : w = 0
      · rw [if_neg (show ¬ w ≠ 0 by omega), if_pos h0, if_pos (show 0 ≤ b ∧ b < 10 by omega), hB.1]
        exact RO_s hR
      · rw [if_pos h0, if_neg h0]
        by_cases h1 : w = 1
        · rw [if_neg (show ¬ w ≠ 1 by omega), if_pos h1]
          exact RO_s hR
        · rw [if_pos h1, if_neg h1]
          exact RO_s hR
    · rw [if_neg hw, if_neg hw]
      exact RO_B hR
  · rw [if_neg hb, if_neg hb]
    exact RO_B hR
theorem oRegion_V (hV : VaV V) : VaV (oRegion V b i).2 := by
  unfold oRegion
  split
  · split
    · exact hV
    · exact rB_V hV
  · exact rB_V hV
theorem cM_region (hV : VaV V) (hR : RfV V g) : RO (oRegion V b i) (jM_region L b i g) g := by
  have h1 := hV.1
  rw [jM_region_eq, cM_isBlock hV hR, bnd]
  simp only [bns, ifz]
  unfold oRegion
  by_cases hb : 0 ≤ b ∧ b < V 0 0
  · have hB := hR.2.1 b hb.1 hb.2
    have hB2 := (hV.2.2.2.2.1 b hb.1 hb.2).1
    rw [if_pos hb, if_pos hb]
    by_cases hi : 0 ≤ i
    · rw [if_pos hi, if_pos hi, if_pos (show 0 ≤ b ∧ b < 10 by omega), hB.1]
      by_cases h2 : i < V 1 b
      · rw [if_neg (show ¬ V 1 b ≤ i by omega), if_pos h2, iw_n (show 0 ≤ 6 * b by omega) (by omega), iw_n (show 0 ≤ 6 * b + i by omega) (by omega), if_pos (by omega), hB.2 i hi h2]
        exact RO_s hR
      · rw [if_pos (show V 1 _ ≤ i by omega), if_neg h2]
        exact RO_s hR
    · rw [if_neg hi, if_neg hi]
      exact RO_B hR
  · rw [if_neg hb, if_neg hb]
    exact RO_B hR
theorem oGiven_V (hV : VaV V) : VaV (oGiven V e i).2 := by
  unfold oGiven
  split
  · split
    · exact hV
    · exact rB_V hV
  · exact rB_V hV
theorem cM_given (hV : VaV V) (hR : RfV V g) : RO (oGiven V e i) (jM_given L e i g) g := by
  rw [jM_given_eq, cM_isEdge hV hR, bnd]
  simp only [bns, ifz]
  unfold oGiven
  by_cases he : 0 ≤ e ∧ e < V 0 1
  · rw [if_pos he, if_pos he]
    by_cases hi : 0 ≤ i
    · rw [if_pos hi, if_pos hi, cM_manyOf hV hR he.1 he.2, bnd]
      dsimp only
      by_cases h2 : i < V 1 (V 3 e)
      · rw [if_neg (show ¬ V 1 (V 3 e) ≤ i by omega), if_pos h2, cM_givenOf hV hR he.1 he.2 hi h2]
        exact RO_s hR
      · rw [if_pos (show V 1 _ ≤ i by omega), if_neg h2]
        exact RO_s hR
    · rw [if_neg hi, if_neg hi]
      exact RO_B hR
  · rw [if_neg he, if_neg he]
    exact RO_B hR
theorem oType_V (hV : VaV V) : VaV (oType V c).2 := by
  have h6 := hV.2.2.2.1
  unfold oType
  split
  · rename_i hc
    split
    · exact rF_V hV
    · rename_i hn
      dsimp only
      have n : ∀ a j, a ≠ 5 → a ≠ 0 ∨ j ≠ 6 → up (up V 5 (V 0 6) c) 0 6 (V 0 6 + 1) a j = V a j := fun a k q q2 => by rw [up_n (by omega), up_n (by omega)]
      refine VaV_g hV (fun a k q => n a k (by omega) (by omega)) (by rw [n _ _ (by omega) (by omega)]; exact hV.2.2.1) (by rw [up_s]; omega) (fun c q0 q1 => ?_) (fun i q0 q1 => ?_)
      · rw [n _ _ (by omega) (by omega)]
        exact (hV.2.2.2.2.2.1 c q0 q1).2.2.1
      · rw [up_s] at q1
        rw [up_n (by omega)]
        by_cases q : i = V 0 6
        · rw [q, up_s]
          exact hc
        · rw [up_n (by omega)]
          exact hV.2.2.2.2.2.2 i q0 (by omega)
  · exact rB_V hV
theorem cM_type (hV : VaV V) (hR : RfV V g) : RO (oType V c) (jM_type L c g) g := by
  have h6 := hV.2.2.2.1
  rw [jM_type_eq, cM_in, bnd]
  simp only [bns, ifn]
  unfold oType
  rw [hR.1.2.2.2.2.2.2]
  by_cases hc : 0 ≤ c ∧ c ≤ 127
  · rw [if_pos hc, if_pos hc]
    by_cases hn : V 0 6 = 120
    · rw [if_neg (show ¬ V 0 6 ≠ 120 by omega), if_pos hn]
      exact RO_F hR
    · rw [if_pos hn, if_neg hn, if_pos (by omega), up_s, up_n (by omega), hR.1.2.2.2.2.2.2, iw_n (by omega) (by omega)]
      have n : ∀ a j, a ≠ 5 → a ≠ 0 ∨ j ≠ 6 → up (up V 5 (V 0 6) c) 0 6 (V 0 6 + 1) a j = V a j := fun a k q q2 => by rw [up_n (by omega), up_n (by omega)]
      have m : ∀ a j, a ≠ 156 → a ≠ 137 ∨ j ≠ 24 → up (up g 156 (V 0 6) c) 137 24 (V 0 6 + 1) a j = g a j := fun a k q q2 => by rw [up_n (by omega), up_n (by omega)]
      refine ⟨_, rfl, ?_, Lo_u (Lo_u Lo_r (by omega)) (by omega)⟩
      dsimp only
      refine RfV_g hV hR (fun a k q => n a k (by omega) (by omega)) (fun a k q => m a k (by omega) (by omega)) ?_ (fun c q0 q1 => ?_) (fun i q0 q1 => ?_)
      · rw [up_s, up_s, n _ _ (by omega) (by omega), n _ _ (by omega) (by omega), n _ _ (by omega) (by omega), n _ _ (by omega) (by omega), m _ _ (by omega) (by omega), m _ _ (by omega) (by omega), m _ _ (by omega) (by omega), m _ _ (by omega) (by omega)]
        exact ⟨hR.1.2.2.1, hR.1.2.2.2.1, hR.1.2.2.2.2.1, hR.1.2.2.2.2.2.1, rfl⟩
      · rw [n _ _ (by omega) (by omega), m _ _ (by omega) (by omega)]
        exact (hR.2.2.1 c q0 q1).2.2.1
      · rw [up_s] at q1
        rw [up_n (by omega), up_n (show (5 : Int) ≠ 0 ∨ i ≠ 6 by omega)]
        by_cases q : i = V 0 6
        · rw [q, up_s, up_s]
        · rw [up_n (by omega), up_n (by omega)]
          exact hR.2.2.2 i q0 (by omega)
  · rw [if_neg hc, if_neg hc]
    exact RO_B hR
theorem oClear_V (hV : VaV V) : VaV (oClear V).2 := by
  unfold oClear
  dsimp only
  have n : ∀ a j, a ≠ 0 ∨ j ≠ 6 → up V 0 6 0 a j = V a j := fun a k q => up_n (by omega)
  refine VaV_g hV (fun a k q => n a k (by omega)) (by rw [n _ _ (by omega)]; exact hV.2.2.1) (by rw [up_s]; omega) (fun c q0 q1 => ?_) (fun i q0 q1 => ?_)
  · rw [n _ _ (by omega)]
    exact (hV.2.2.2.2.2.1 c q0 q1).2.2.1
  · rw [up_s] at q1
    omega
theorem cM_clear (hV : VaV V) (hR : RfV V g) : RO (oClear V) (jM_clear L g) g := by
  rw [jM_clear_eq, hR.1.2.2.2.2.2.2]
  have n : ∀ a j, a ≠ 0 ∨ j ≠ 6 → up V 0 6 0 a j = V a j := fun a k q => up_n (by omega)
  have m : ∀ a j, a ≠ 137 ∨ j ≠ 24 → up g 137 24 0 a j = g a j := fun a k q => up_n (by omega)
  refine ⟨_, rfl, ?_, Lo_u Lo_r (by omega)⟩
  unfold oClear
  dsimp only
  refine RfV_g hV hR (fun a k q => n a k (by omega)) (fun a k q => m a k (by omega)) ?_ (fun c q0 q1 => ?_) (fun i q0 q1 => ?_)
  · rw [up_s, up_s, n _ _ (by omega), n _ _ (by omega), n _ _ (by omega), n _ _ (by omega), m _ _ (by omega), m _ _ (by omega), m _ _ (by omega), m _ _ (by omega)]
    exact ⟨hR.1.2.2.1, hR.1.2.2.2.1, hR.1.2.2.2.2.1, hR.1.2.2.2.2.2.1, rfl⟩
  · rw [n _ _ (by omega), m _ _ (by omega)]
    exact (hR.2.2.1 c q0 q1).2.2.1
  · rw [up_s] at q1
    omega
theorem oTold_V (hV : VaV V) : VaV (oTold V w).2 := by
  unfold oTold
  split
  · exact hV
  · exact rB_V hV
theorem cM_tells (hR : RfV V g) (h0 : 0 ≤ w) (h1 : w ≤ 6) : jM_tells L w g = some (tlV V w, g) := by
  rw [jM_tells_eq]
  obtain ⟨r1, r2, r3, r4, r5, r6, r7⟩ := hR.1
  have hw : w = 0 ∨ w = 1 ∨ w = 2 ∨ w = 3 ∨ w = 4 ∨ w = 5 ∨ w = 6 := by omega
  unfold tlV
  rcases hw with q | q | q | q | q | q | q <;> subst q <;> simp [r1, r2, r3, r4, r5, r6, r7]
theorem cM_told (hV : VaV V) (hR : RfV V g) : RO (oTold V w) (jM_told L w g) g := by
  rw [jM_told_eq, cM_in, bnd]
  simp only [bns, ifz]
  unfold oTold
  by_cases hw : 0 ≤ w ∧ w ≤ 6
  · rw [if_pos hw, if_pos hw, cM_tells hR hw.1 hw.2]
    exact RO_s hR
  · rw [if_neg hw, if_neg hw]
    exact RO_B hR
end OPS2
