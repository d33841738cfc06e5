/-! the class's plain calls: the others -/
section CLQ
variable {L : Nat} {V g h : AMem} {a b c e f i j k p r t w x : Int}
theorem cX_weight (hV : VaV V) (hC : ClV V t g) : CO (oWeight V e w) (jX_weight L e w g) g := by
  have ht := hC.1
  have h0 := hV.1
  have h1 := hV.2.1
  have e20 := hC.2.1.1
  subst e20
  rw [jX_weight_eq, if_pos (kG' ht), cG_hasEdge ht hC.2.2.1, bnd]
  dsimp only
  rw [ifz, cX_isBelow, bnd]
  dsimp only
  rw [ifn, if_pos (kG' ht), if_pos (kG' ht)]
  simp only [bns]
  unfold oWeight
  by_cases he : 0 ≤ e ∧ e < V 0 1
  · have c16 : 0 ≤ e ∧ e < 16 := by omega
    have hE := hC.2.2.1.2.2 e he.1 he.2
    rw [if_pos he, if_pos he, if_pos c16, if_pos c16, hE.2.2.1]
    by_cases hw : 0 ≤ w ∧ w ≤ 99
    · rw [if_pos hw, if_pos (show 0 ≤ w ∧ w < 100 by omega)]
      have n : ∀ a k, a ≠ 4 → up V 4 e w a k = V a k := fun a k q => up_n (by omega)
      have m : ∀ a k, ¬ (a = g 2 0 + 23 + 2 * e ∧ k = 3) → up g (g 2 0 + 23 + 2 * e) 3 w a k = g a k := fun a k q => up_n (by omega)
      obtain ⟨r0, r1, r2⟩ := hC.2.2.1
      refine CO_g hC (Gt_u Gt_r (by omega)) ⟨?_, fun b hb0 hb1 => ?_, fun c hc0 hc1 => ?_⟩ (fun k hk => n _ _ (by omega)) (fun i => n _ _ (by omega))
      · rw [m _ _ (by omega), m _ _ (by omega), n _ _ (by omega), n _ _ (by omega)]
        exact r0
      · rw [n _ _ (by omega)] at hb1
        have hB := r1 b hb0 hb1
        rw [m _ _ (by omega), n _ _ (by omega)]
        refine ⟨hB.1, fun i hi0 hi1 => ?_⟩
        rw [m _ _ (by omega), n _ _ (by omega)]
        exact hB.2 i hi0 hi1
      · rw [n _ _ (by omega)] at hc1
        have hE := r2 c hc0 hc1
        rw [m _ 1 (by omega), m _ 2 (by omega), n 2 _ (by omega), n 3 _ (by omega), n 1 _ (by omega)]
        refine ⟨hE.1, hE.2.1, ?_, fun i hi0 hi1 => ?_⟩
        · by_cases q : c = e
          · rw [q, up_s, up_s]
          · rw [up_n (by omega), up_n (by omega)]
            exact hE.2.2.1
        · rw [m _ _ (by omega), n _ _ (by omega)]
          exact hE.2.2.2 i hi0 hi1
    · rw [if_neg hw, if_neg (show ¬ (0 ≤ w ∧ w < 100) by omega)]
      exact CO_B hV hC
  · rw [if_neg he, if_neg he]
    exact CO_B hV hC
theorem cX_machine (hV : VaV V) (hC : ClV V t g) : CO (oMachine V k) (jX_machine L k g) g := by
  have h0 := hV.1
  have h1 := hV.2.1
  rw [jX_machine_eq, cX_isBelow, bnd]
  dsimp only
  rw [ifn, bns, hC.2.2.2.1.1]
  unfold oMachine
  by_cases hk : 0 ≤ k ∧ k ≤ 4
  · rw [if_pos hk, if_pos (show 0 ≤ k ∧ k < 5 by omega)]
    have n : ∀ a j, a ≠ 0 ∨ j ≠ 2 → up V 0 2 k a j = V a j := fun a k q => up_n (by omega)
    have m : ∀ a j, a ≠ 2 ∨ j ≠ 10 → up g 2 10 k a j = g a j := fun a k q => up_n (by omega)
    obtain ⟨c0, c1, c2, c3, c4⟩ := hC
    have hG := GrV_k (h := up g 2 10 k) hV c2 (fun a k q1 q2 => m a k (by omega))
    refine ⟨_, t, rfl, ⟨c0, by rw [m _ _ (by omega), m _ _ (by omega)]; exact c1, ⟨?_, fun b hb0 hb1 => ?_, fun e he0 he1 => ?_⟩, ?_, fun i hi0 hi1 => ?_⟩, Hi_u Hi_r (by omega)⟩
    · dsimp only
      rw [n _ _ (by omega), n _ _ (by omega)]
      exact hG.1
    · dsimp only at hb1 ⊢
      rw [n _ _ (by omega)] at hb1
      have hB := hG.2.1 b hb0 hb1
      rw [n _ _ (by omega)]
      refine ⟨hB.1, fun i hi0 hi1 => ?_⟩
      rw [n _ _ (by omega)]
      exact hB.2 i hi0 hi1
    · dsimp only at he1 ⊢
      rw [n _ _ (by omega)] at he1
      have hE := hG.2.2 e he0 he1
      rw [n 2 _ (by omega), n 3 _ (by omega), n 4 _ (by omega), n 1 _ (by omega)]
      refine ⟨hE.1, hE.2.1, hE.2.2.1, fun i hi0 hi1 => ?_⟩
      rw [n _ _ (by omega)]
      exact hE.2.2.2 i hi0 hi1
    · dsimp only
      rw [up_s, up_s, m _ _ (by omega), m _ _ (by omega), m _ _ (by omega), m _ _ (by omega), n _ _ (by omega), n _ _ (by omega), n _ _ (by omega), n _ _ (by omega)]
      exact ⟨rfl, c3.2⟩
    · dsimp only at hi1 ⊢
      rw [n _ _ (by omega)] at hi1
      rw [m _ _ (by omega), n _ _ (by omega)]
      exact c4 i hi0 hi1
  · rw [if_neg hk, if_neg (show ¬ (0 ≤ k ∧ k < 5) by omega)]
    exact CO_B hV hC
theorem cX_about (hV : VaV V) (hC : ClV V t g) : CO (oAbout V b w) (jX_about L b w g) g := by
  have ht := hC.1
  have h0 := hV.1
  have e20 := hC.2.1.1
  subst e20
  rw [jX_about_eq, if_pos (kG' ht), cG_hasBlock ht hC.2.2.1, bnd]
  dsimp only
  rw [ifz, cX_isBelow, bnd]
  dsimp only
  rw [ifn, if_pos (kG' ht), if_pos (kG' ht), if_pos (kG' ht), cG_countFrom hV ht hC.2.2.1, cG_countTo hV ht hC.2.2.1]
  simp only [bns, bnd]
  unfold oAbout
  by_cases hb : 0 ≤ b ∧ b < V 0 0
  · have c10 : 0 ≤ b ∧ b < 10 := by omega
    rw [if_pos hb, if_pos hb, if_pos c10, (hC.2.2.1.2.1 b hb.1 hb.2).1]
    by_cases hw : 0 ≤ w ∧ w ≤ 2
    · rw [if_pos hw, if_pos (show 0 ≤ w ∧ w < 3 by omega)]
      by_cases w0 : w = 0
      · rw [if_pos w0, if_pos w0]
        exact CO_s hC
      · rw [if_neg w0, if_neg w0]
        by_cases w1 : w = 1
        · rw [if_pos w1, if_pos w1]
          exact CO_s hC
        · rw [if_neg w1, if_neg w1]
          exact CO_s hC
    · rw [if_neg hw, if_neg (show ¬ (0 ≤ w ∧ w < 3) by omega)]
      exact CO_B hV hC
  · rw [if_neg hb, if_neg hb]
    exact CO_B hV hC
theorem cX_region (hV : VaV V) (hC : ClV V t g) : CO (oRegion V b i) (jX_region L b i g) g := by
  have ht := hC.1
  have h0 := hV.1
  have e20 := hC.2.1.1
  subst e20
  rw [jX_region_eq, if_pos (kG' ht), cG_hasBlock ht hC.2.2.1, bnd]
  dsimp only
  rw [ifz, if_pos (kG' ht), if_pos (kG' ht)]
  simp only [bns]
  unfold oRegion
  by_cases hb : 0 ≤ b ∧ b < V 0 0
  · have c10 : 0 ≤ b ∧ b < 10 := by omega
    have hB := hC.2.2.1.2.1 b hb.1 hb.2
    have hm := (hV.2.2.2.2.1 b hb.1 hb.2).1
    rw [if_pos hb, if_pos hb, if_pos c10, if_pos c10]
    by_cases hi : 0 ≤ i
    · rw [if_pos hi, if_pos hi]
      by_cases h2 : i < V 1 b
      · rw [if_pos h2, if_neg (show ¬ g (g 2 0 + 2 + 2 * b) 1 ≤ i by omega), if_pos (by omega), hB.2 i hi h2]
        exact CO_s hC
      · rw [if_neg h2, if_pos (show g (g 2 0 + 2 + 2 * b) 1 ≤ i by omega)]
        exact CO_s hC
    · rw [if_neg hi, if_neg hi]
      exact CO_B hV hC
  · rw [if_neg hb, if_neg hb]
    exact CO_B hV hC
theorem cX_given (hV : VaV V) (hC : ClV V t g) : CO (oGiven V e i) (jX_given L e i g) g := by
  have ht := hC.1
  have h0 := hV.1
  have h1 := hV.2.1
  have e20 := hC.2.1.1
  subst e20
  rw [jX_given_eq, if_pos (kG' ht), cG_hasEdge ht hC.2.2.1, bnd]
  dsimp only
  rw [ifz, if_pos (kG' ht), if_pos (kG' ht)]
  simp only [bns]
  unfold oGiven
  by_cases he : 0 ≤ e ∧ e < V 0 1
  · have c16 : 0 ≤ e ∧ e < 16 := by omega
    have hE := hC.2.2.1.2.2 e he.1 he.2
    have hE2 := hV.2.2.2.2.2.1 e he.1 he.2
    have hn := edg_n hV he.1 he.2
    have hB := hC.2.2.1.2.1 _ hE2.2.1.1 hE2.2.1.2
    have c10 : 0 ≤ V 3 e ∧ V 3 e < 10 := by omega
    rw [if_pos he, if_pos he, if_pos c16, if_pos c16]
    simp only [hE.2.1, hB.1]
    rw [if_pos c10]
    by_cases hi : 0 ≤ i
    · rw [if_pos hi, if_pos hi]
      by_cases h2 : i < V 1 (V 3 e)
      · rw [if_pos h2, if_neg (show ¬ V 1 (V 3 e) ≤ i by omega), if_pos (by omega), hE.2.2.2 i hi h2]
        exact CO_s hC
      · rw [if_neg h2, if_pos (show V 1 (V 3 e) ≤ i by omega)]
        exact CO_s hC
    · rw [if_neg hi, if_neg hi]
      exact CO_B hV hC
  · rw [if_neg he, if_neg he]
    exact CO_B hV hC
theorem ClV_t {V' : AMem} (hV : VaV V) (hC : ClV V t g) (hv : ∀ a k, a ≠ 5 → ¬ (a = 0 ∧ k = 6) → V' a k = V a k) (hg : ∀ a k, ¬ (a = 113 ∧ k = 1) → a ≠ 114 → h a k = g a k) (h6 : h 113 1 = V' 0 6) (h5 : ∀ i, 0 ≤ i → i < V' 0 6 → h 114 i = V' 5 i) : ClV V' t h := by
  have h0 := hV.1
  have h1 := hV.2.1
  obtain ⟨c0, c1, c2, c3, c4⟩ := hC
  have hG := GrV_k (h := h) hV c2 (fun a k q1 q2 => hg a k (by omega) (by omega))
  refine ⟨c0, by rw [hg _ _ (by omega) (by omega), hg _ _ (by omega) (by omega)]; exact c1, ⟨?_, fun b hb0 hb1 => ?_, fun e he0 he1 => ?_⟩, ?_, h5⟩
  · rw [hv _ _ (by omega) (by omega), hv _ _ (by omega) (by omega)]
    exact hG.1
  · rw [hv _ _ (by omega) (by omega)] at hb1
    have hB := hG.2.1 b hb0 hb1
    rw [hv _ _ (by omega) (by omega)]
    refine ⟨hB.1, fun i hi0 hi1 => ?_⟩
    rw [hv _ _ (by omega) (by omega)]
    exact hB.2 i hi0 hi1
  · rw [hv _ _ (by omega) (by omega)] at he1
    have hE := hG.2.2 e he0 he1
    rw [hv 2 _ (by omega) (by omega), hv 3 _ (by omega) (by omega), hv 4 _ (by omega) (by omega), hv 1 _ (by omega) (by omega)]
    refine ⟨hE.1, hE.2.1, hE.2.2.1, fun i hi0 hi1 => ?_⟩
    rw [hv _ _ (by omega) (by omega)]
    exact hE.2.2.2 i hi0 hi1
  · rw [hg 2 _ (by omega) (by omega), hg 2 _ (by omega) (by omega), hg 2 _ (by omega) (by omega), hg 2 _ (by omega) (by omega), hv _ 2 (by omega) (by omega), hv _ 3 (by omega) (by omega), hv _ 4 (by omega) (by omega), hv _ 5 (by omega) (by omega)]
    exact ⟨c3.1, c3.2.1, c3.2.2.1, c3.2.2.2.1, h6⟩
theorem cX_type (hV : VaV V) (hC : ClV V t g) : CO (oType V c) (jX_type L c g) g := by
  have h6 := hV.2.2.2.1
  have e1 := hC.2.2.2.1.2.2.2.2
  rw [jX_type_eq, cX_isBelow, bnd]
  dsimp only
  rw [ifn, jTe_append_eq]
  simp only [bns, e1]
  unfold oType
  by_cases hc : 0 ≤ c ∧ c ≤ 127
  · rw [if_pos hc, if_pos (show 0 ≤ c ∧ c < 128 by omega)]
    by_cases hn : V 0 6 = 120
    · rw [if_pos hn, if_neg (show ¬ V 0 6 < 120 by omega)]
      exact CO_F hV hC
    · rw [if_neg hn, if_pos (show V 0 6 < 120 by omega), if_neg (show ¬ 120 ≤ V 0 6 by omega), if_pos (show 0 ≤ V 0 6 ∧ V 0 6 < 120 by omega), bnd, up_s, up_n (by omega), e1, iw_n (by omega) (by omega)]
      refine ⟨_, t, rfl, ClV_t hV hC (fun a k q q2 => by dsimp only; rw [up_n (by omega), up_n (by omega)]) (fun a k q q2 => by rw [up_n (by omega), up_n (by omega)]) (by dsimp only; rw [up_s, up_s]) (fun i i0 i1 => ?_), Hi_u (Hi_u Hi_r (by omega)) (by omega)⟩
      dsimp only at i1 ⊢
      rw [up_s] at i1
      rw [up_n (by omega), up_n (show (5 : Int) ≠ 0 ∨ i ≠ 6 by omega)]
      by_cases q : i = V 0 6
      · rw [q, up_s, up_s]
      · rw [up_n (by omega), up_n (by omega)]
        exact hC.2.2.2.2 i i0 (by omega)
  · rw [if_neg hc, if_neg (show ¬ (0 ≤ c ∧ c < 128) by omega)]
    exact CO_B hV hC
theorem cX_clear (hV : VaV V) (hC : ClV V t g) : CO (oClear V) (jX_clear L g) g := by
  rw [jX_clear_eq, hC.2.2.2.1.2.2.2.2]
  unfold oClear
  refine ⟨_, t, rfl, ClV_t hV hC (fun a k q q2 => up_n (by omega)) (fun a k q q2 => up_n (by omega)) (by dsimp only; rw [up_s, up_s]) (fun i i0 i1 => ?_), Hi_u Hi_r (by omega)⟩
  dsimp only at i1
  rw [up_s] at i1
  omega
theorem cX_standing (hC : ClV V t g) (h0 : 0 ≤ w) (h1 : w ≤ 6) : jX_standing L w g = some (tlV V w, g) := by
  have ht := hC.1
  have e20 := hC.2.1.1
  subst e20
  rw [jX_standing_eq, if_pos (kG' ht), if_pos (kG' ht)]
  obtain ⟨r1, r2, r3, r4, r5⟩ := hC.2.2.2.1
  have q0 := hC.2.2.1.1.1
  have q1 := hC.2.2.1.1.2
  have hw : w = 0 ∨ w = 1 ∨ w = 2 ∨ w = 3 ∨ w = 4 ∨ w = 5 ∨ w = 6 := by omega
  unfold tlV
  rcases hw with q | q | q | q | q | q | q <;> subst q <;> simp [r1, r2, r3, r4, r5, q0, q1]
theorem cX_told (hV : VaV V) (hC : ClV V t g) : CO (oTold V w) (jX_told L w g) g := by
  rw [jX_told_eq, cX_isBelow, bnd]
  dsimp only
  rw [ifn, bns, bns]
  unfold oTold
  by_cases hw : 0 ≤ w ∧ w ≤ 6
  · rw [if_pos hw, if_pos (show 0 ≤ w ∧ w < 7 by omega), cX_standing hC hw.1 hw.2]
    exact CO_s hC
  · rw [if_neg hw, if_neg (show ¬ (0 ≤ w ∧ w < 7) by omega)]
    exact CO_B hV hC
end CLQ
