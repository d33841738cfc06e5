/-! the class's plain calls -/
section CLP
variable {L : Nat} {V g h : AMem} {a b c e f i j k p r t w x : Int}
theorem cRg_isRegion (h : cno r) : jRg_isRegion L r g = some (if isRg r = true then 1 else 0, g) := by
  unfold cno at h
  rw [jRg_isRegion_eq]
  by_cases h0 : r < 0
  · rw [if_pos h0, if_neg]
    intro q
    have := isRg_b q
    omega
  · rw [if_neg h0]
    have h1 : 0 ≤ r := by omega
    have h2 : r < 2147483648 := by omega
    simp only [cRg_width h1 h2, cRg_firstByte h1 h2, cRg_isWidth, bnd, b2n]
    unfold isW isRg
    simp only [decide_eq_true_eq]
    by_cases hw : r % 10 = 1 ∨ r % 10 = 2 ∨ r % 10 = 4
    · rw [if_pos hw, iw_n (show 0 ≤ r / 10 + r % 10 by omega) (by omega), tdv (by omega), sbm, iw_n (by rcases hw with e | e | e <;> rw [e] <;> omega) (by rcases hw with e | e | e <;> rw [e] <;> omega)]
      by_cases h3 : 32 < r / 10 + r % 10
      · rw [if_pos h3, if_neg (by omega)]
      · rw [if_neg h3, if_neg (by omega)]
        by_cases hm : r / 10 % (r % 10) = 0
        · rw [if_neg (by simp [hm]), if_pos (by omega)]
        · rw [if_pos hm, if_neg (fun q => hm q.2.2.1)]
    · rw [if_neg hw, if_neg (fun q => hw q.2.1)]
theorem cB_hasRoomAt (hV : VaV V) (ht : t = 3 ∨ t = 58) (hG : GrV V t g) (hb0 : 0 ≤ b) (hb1 : b < V 0 0) (hr : 0 ≤ r ∧ r < 1000000) : jBk_hasRoomAt L (t + 2 + 2 * b) r g = some (if tkB V b r = true then 0 else 1, g) := by
  have h0 := hV.1
  have hB := hV.2.2.2.2.1 b hb0 hb1
  have hg := hG.2.1 b hb0 hb1
  have hk : kin (SH L) (t + 2 + 2 * b) = 0 := (kG_b (kG' ht) hb0 (by omega)).2
  rw [jBk_hasRoomAt_eq L _ _ g hk]
  have hmain : ∀ (k : Nat) (i : Int), 0 ≤ i → i + k = V 1 b → anB (fun i => shB (V (10 + b) i) r) i.toNat = false → jBk_hasRoomAt_2 L (t + 2 + 2 * b) r i g = some (if tkB V b r = true then 0 else 1, g) := by
    intro k
    induction k with
    | zero =>
      intro i i0 i1 hi
      rw [jBk_hasRoomAt_2_eq L _ _ _ g hk, hg.1, if_pos (by omega)]
      unfold tkB
      rw [show (V 1 b).toNat = i.toNat by omega, hi, if_neg (by simp)]
    | succ k ih =>
      intro i i0 i1 hi
      have hp := par_b hV hb0 hb1 i0 (show i < V 1 b by omega)
      rw [jBk_hasRoomAt_2_eq L _ _ _ g hk, hg.1, if_neg (by omega), if_pos (by omega), hg.2 i i0 (by omega), cRg_shareByte (by omega) (by omega) hr.1 hr.2, bnd]
      dsimp only
      rw [ifz, iw_n (by omega) (by omega)]
      by_cases hs : shB (V (10 + b) i) r = true
      · rw [if_pos hs, if_pos]
        unfold tkB
        exact anB_t.mpr ⟨i, i0, by omega, hs⟩
      · rw [if_neg hs]
        exact ih (i + 1) (by omega) (by omega) (by rw [anB_s i0, hi, Bool.eq_false_iff.mpr hs]; rfl)
  exact hmain (V 1 b).toNat 0 (by omega) (by omega) rfl
theorem cRg_isAsWide (hc : cno w) (hp : 0 ≤ p ∧ p < 2147483648) : jRg_isAsWide L w p g = some (if isRg w = true ∧ w % 10 = p % 10 then 1 else 0, g) := by
  rw [jRg_isAsWide_eq, cRg_isRegion hc, bnd]
  dsimp only
  rw [ifz]
  by_cases h1 : isRg w = true
  · have hb := isRg_b h1
    rw [if_pos h1, cRg_width (by omega) (by omega), bnd, cRg_width hp.1 hp.2, bnd]
    dsimp only
    by_cases h2 : w % 10 = p % 10
    · rw [if_neg (show ¬ w % 10 ≠ p % 10 by omega), if_pos ⟨h1, h2⟩]
    · rw [if_pos h2, if_neg (fun h => h2 h.2)]
  · rw [if_neg h1, if_neg (fun h => h1 h.1)]
theorem cRg_isArgumentFor (hc : cno w) (hp : 0 ≤ p ∧ p < 2147483648) : jRg_isArgumentFor L w p g = some (if mgB w p = true then 1 else 0, g) := by
  have hc' := hc
  unfold cno at hc
  have h0 : jRg_isConstant L w g = some (if 0 ≤ -1 - w ∧ -1 - w < 100 then 1 else 0, g) := by
    rw [jRg_isConstant_eq, iw_s (show -2147483648 ≤ -1 - w ∧ -1 - w < 2147483648 by omega), cX_isBelow, bnd]
    simp only [b2b, if_true]
  rw [jRg_isArgumentFor_eq, h0, bnd]
  dsimp only
  rw [ifn]
  unfold mgB
  simp only [decide_eq_true_eq]
  by_cases h1 : 0 ≤ -1 - w ∧ -1 - w < 100
  · rw [if_pos h1, if_pos (by omega)]
  · rw [if_neg h1, cRg_isAsWide hc' hp, bnd]
    dsimp only
    rw [ifz]
    by_cases h2 : isRg w = true ∧ w % 10 = p % 10
    · rw [if_pos h2, if_pos (Or.inr h2)]
    · rw [if_neg h2, if_neg (fun h => by rcases h with h | h; omega; exact h2 h)]
theorem CO_g {V' : AMem} (hC : ClV V t g) (hS : Gt t g h) (hG : GrV V' t h) (h2 : ∀ k, 2 ≤ k → V' 0 k = V 0 k) (h5 : ∀ i, V' 5 i = V 5 i) : CO (w, V') (some (w, h)) g := ⟨h, t, rfl, ClV_g hC hS hG h2 h5, Gt_hi hC.1 hS⟩
theorem an_2 (hk : 2 ≤ k) : (oAnew V).2 0 k = V 0 k := by
  unfold oAnew
  dsimp only
  rw [up_n (by omega), up_n (by omega)]
theorem an_5 : (oAnew V).2 5 k = V 5 k := by
  unfold oAnew
  dsimp only
  rw [up_n (by omega), up_n (by omega)]
theorem cX_anew (hC : ClV V t g) : CO (oAnew V) (jX_anew L g) g := by
  have ht := hC.1
  rw [jX_anew_eq, hC.2.1.1, if_pos (kG' ht), if_pos (kG' ht)]
  obtain ⟨g1, a1, a2, a3⟩ := cG_removeAll (L := L) (V := V) (g := g) ht
  rw [a1, bnd, hC.2.2.1.1.2]
  exact CO_g hC a3 a2 (fun k hk => an_2 hk) (fun i => an_5)
theorem cX_block (hV : VaV V) (hC : ClV V t g) : CO (oBlock V) (jX_block L g) g := by
  have ht := hC.1
  have h0 := hV.1
  rw [jX_block_eq, hC.2.1.1, if_pos (kG' ht), hC.2.2.1.1.1, if_pos (kG' ht), bns, bns]
  unfold oBlock
  by_cases h : V 0 0 = 10
  · rw [if_pos h, if_neg (by omega)]
    exact CO_F hV hC
  · rw [if_neg h, if_pos (by omega)]
    obtain ⟨g1, a1, a2, a3⟩ := cG_addBlock (L := L) hV ht hC.2.2.1 (by omega)
    rw [a1]
    exact CO_g hC a3 a2 (fun k hk => nb_n (by omega) (by omega)) (fun i => nb_n (by omega) (by omega))
theorem cX_parameter (hV : VaV V) (hC : ClV V t g) (hc : cno r) : CO (oParameter V b r) (jX_parameter L b r g) g := by
  have ht := hC.1
  have h0 := hV.1
  have e20 := hC.2.1.1
  subst e20
  rw [jX_parameter_eq, if_pos (kG' ht), cG_hasBlock ht hC.2.2.1, bnd]
  dsimp only
  rw [ifz, cRg_isRegion hc, bnd, bns]
  dsimp only
  rw [ifn, if_pos (kG' ht)]
  unfold oParameter
  by_cases hb : 0 ≤ b ∧ b < V 0 0
  · have c10 : 0 ≤ b ∧ b < 10 := by omega
    have hm := (hV.2.2.2.2.1 b hb.1 hb.2).1
    rw [if_pos hb, if_pos hb, if_pos c10]
    by_cases hr : isRg r = true
    · have hrb := isRg_b hr
      rw [if_pos hr, if_pos hr, cB_hasRoomAt hV ht hC.2.2.1 hb.1 hb.2 ⟨by omega, by omega⟩, bnd]
      dsimp only
      by_cases hk : tkB V b r = true
      · rw [if_pos hk, if_pos hk, if_neg (by omega), bns]
        exact CO_N hV hC
      · have eB := (hC.2.2.1.2.1 b hb.1 hb.2).1
        rw [if_neg hk, if_neg hk, if_pos (show (1 : Int) ≠ 0 by omega), if_pos (kG' ht), if_pos c10]
        by_cases h6 : V 1 b = 6
        · rw [if_pos h6, if_neg (show ¬ g (g 2 0 + 2 + 2 * b) 1 < 6 by omega), bns]
          exact CO_F hV hC
        · rw [if_neg h6, if_pos (show g (g 2 0 + 2 + 2 * b) 1 < 6 by omega), if_pos (kG' ht), bns]
          obtain ⟨g1, a1, a2, a3⟩ := cG_addParameter (L := L) (r := r) hV ht hC.2.2.1 hb.1 hb.2 (by omega)
          rw [a1]
          exact CO_g hC a3 a2 (fun k hk => np_b (by omega) (by omega) (by omega)) (fun i => np_b (by omega) (by omega) (by omega))
    · rw [if_neg hr, if_neg hr]
      exact CO_B hV hC
  · rw [if_neg hb, if_neg hb]
    exact CO_B hV hC
theorem cX_edge (hV : VaV V) (hC : ClV V t g) : CO (oEdge V f p w) (jX_edge L f p w g) g := by
  have ht := hC.1
  have h0 := hV.1
  have h1 := hV.2.1
  have e20 := hC.2.1.1
  subst e20
  rw [jX_edge_eq, if_pos (kG' ht), cG_hasBlock ht hC.2.2.1, bnd]
  dsimp only
  rw [ifz, if_pos (kG' ht), cG_hasBlock ht hC.2.2.1, bnd, bns]
  dsimp only
  rw [ifz, cX_isBelow, bnd]
  dsimp only
  rw [ifn, if_pos (kG' ht), if_pos (kG' ht)]
  simp only [bns, hC.2.2.1.1.2]
  unfold oEdge
  by_cases hf : 0 ≤ f ∧ f < V 0 0
  · rw [if_pos hf, if_pos hf]
    by_cases hp : 0 ≤ p ∧ p < V 0 0
    · rw [if_pos hp, if_pos hp]
      by_cases hw : 0 ≤ w ∧ w ≤ 99
      · rw [if_pos hw, if_pos (show 0 ≤ w ∧ w < 100 by omega)]
        by_cases hn : V 0 1 = 16
        · rw [if_pos hn, if_neg (show ¬ V 0 1 < 16 by omega)]
          exact CO_F hV hC
        · rw [if_neg hn, if_pos (show V 0 1 < 16 by omega)]
          obtain ⟨g1, a1, a2, a3⟩ := cG_addEdge (L := L) (w := w) hV ht hC.2.2.1 hf.1 hf.2 hp.1 hp.2 (by omega)
          rw [a1]
          exact CO_g hC a3 a2 (fun k hk => ne_n (by omega) (by omega) (by omega)) (fun i => ne_n (by omega) (by omega) (by omega))
      · rw [if_neg hw, if_neg (show ¬ (0 ≤ w ∧ w < 100) by omega)]
        exact CO_B hV hC
    · rw [if_neg hp, if_neg hp]
      exact CO_B hV hC
  · rw [if_neg hf, if_neg hf]
    exact CO_B hV hC
theorem GrV_up (hV : VaV V) (hG : GrV V t g) (he0 : 0 ≤ e) (he1 : e < V 0 1) : GrV (up V (20 + e) i w) t (up g (t + 23 + 2 * e + 1) i w) := by
  have h0 := hV.1
  have h1 := hV.2.1
  obtain ⟨r0, r1, r2⟩ := hG
  have hv : ∀ a k, a < 20 → up V (20 + e) i w a k = V a k := fun a k q => up_n (by omega)
  have n : ∀ a k, a ≠ t + 23 + 2 * e + 1 → up g (t + 23 + 2 * e + 1) i w a k = g a k := fun a k q => up_n (by omega)
  refine ⟨by rw [n _ _ (by omega), n _ _ (by omega), hv _ _ (by omega), hv _ _ (by omega)]; exact r0, fun b hb0 hb1 => ?_, fun c hc0 hc1 => ?_⟩
  · rw [hv _ _ (by omega)] at hb1
    have hB := r1 b hb0 hb1
    rw [n _ _ (by omega), hv _ _ (by omega)]
    refine ⟨hB.1, fun i hi0 hi1 => ?_⟩
    rw [n _ _ (by omega), hv _ _ (by omega)]
    exact hB.2 i hi0 hi1
  · rw [hv _ _ (by omega)] at hc1
    have hE := r2 c hc0 hc1
    rw [n _ _ (by omega), n _ _ (by omega), n _ _ (by omega), hv _ _ (by omega), hv _ _ (by omega), hv _ _ (by omega), hv _ _ (by omega)]
    refine ⟨hE.1, hE.2.1, hE.2.2.1, fun j hj0 hj1 => ?_⟩
    by_cases q : c = e ∧ j = i
    · rw [q.1, q.2, up_s, up_s]
    · rw [up_n (by omega), up_n (by omega)]
      exact hE.2.2.2 j hj0 hj1
theorem cX_argument (hV : VaV V) (hC : ClV V t g) (hc : cno w) : CO (oArgument V e i w) (jX_argument L e i w g) g := by
  have ht := hC.1
  have h0 := hV.1
  have h1 := hV.2.1
  have e20 := hC.2.1.1
  subst e20
  rw [jX_argument_eq, if_pos (kG' ht), cG_hasEdge ht hC.2.2.1, bnd]
  dsimp only
  rw [ifz, bns]
  unfold oArgument
  by_cases he : 0 ≤ e ∧ e < V 0 1
  · have hE := hC.2.2.1.2.2 e he.1 he.2
    have hE2 := hV.2.2.2.2.2.1 e he.1 he.2
    have hn := edg_n hV he.1 he.2
    have c16 : 0 ≤ e ∧ e < 16 := by omega
    have c10 : 0 ≤ V 3 e ∧ V 3 e < 10 := by omega
    have hB := hC.2.2.1.2.1 _ hE2.2.1.1 hE2.2.1.2
    rw [if_pos he, if_pos he, if_pos (kG' ht), if_pos c16]
    simp only [hE.2.1]
    rw [if_pos c10, cX_isBelow, bnd, hB.1]
    dsimp only
    rw [ifn, bns, if_pos (kG' ht), if_pos c16]
    simp only [hE.2.1]
    rw [if_pos c10]
    by_cases hi : 0 ≤ i ∧ i < V 1 (V 3 e)
    · have c6 : 0 ≤ i ∧ i < 6 := by omega
      have hb := edg_b hV he.1 he.2 hi.1 hi.2
      rw [if_pos hi, if_pos hi, if_pos c6, hB.2 i hi.1 hi.2, cRg_isArgumentFor hc ⟨by omega, by omega⟩, bnd]
      dsimp only
      rw [ifn, bns, if_pos (kG' ht), if_pos c16, if_pos c6, if_pos (kG' ht), if_pos c16, if_pos c6, hE.2.2.2 i hi.1 hi.2]
      by_cases hm : mgB w (V (10 + V 3 e) i) = true
      · rw [if_pos hm, if_pos hm]
        exact CO_g hC (Gt_u Gt_r (by omega)) (GrV_up hV hC.2.2.1 he.1 he.2) (fun k hk => up_n (by omega)) (fun i => up_n (by omega))
      · rw [if_neg hm, if_neg hm]
        exact CO_B hV hC
    · rw [if_neg hi, if_neg hi]
      exact CO_B hV hC
  · rw [if_neg he, if_neg he]
    exact CO_B hV hC
end CLP
