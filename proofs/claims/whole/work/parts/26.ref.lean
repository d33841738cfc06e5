def acB (a c : Int) : Bool := decide (a ≠ c) && shB a c
def vMv (V : AMem) (e i : Int) : Bool := decide (V (20 + e) i ≠ V (10 + V 3 e) i)
def acF (V : AMem) (e r i : Int) : Bool := vMv V e i && (acB (V (10 + V 3 e) i) r || (decide (0 < V (20 + e) i) && acB (V (20 + e) i) r))
def acR (V : AMem) (e r : Int) : Bool := anB (acF V e r) (V 1 (V 3 e)).toNat
def clF (V : AMem) (e i : Int) : Bool := vMv V e i && (acR V e (V (10 + V 3 e) i) || (decide (0 ≤ V (20 + e) i) && acR V e (V (20 + e) i)))
def clB (V : AMem) (e : Int) : Bool := !(anB (clF V e) (V 1 (V 3 e)).toNat)
def tkB (V : AMem) (b r : Int) : Bool := anB (fun i => shB (V (10 + b) i) r) (V 1 b).toNat
theorem acB_i (a c : Int) : (if a ≠ c ∧ shB a c = true then (1 : Int) else 0) = if acB a c = true then 1 else 0 := by
  unfold acB
  by_cases h1 : a = c <;> cases h2 : shB a c <;> simp [h1]
section REF2
variable {L : Nat} {V g : AMem} {a b c e i r w : Int}
theorem cM_acr (h0 : 0 ≤ a) (h1 : a < 1000000) (h2 : 0 ≤ c) (h3 : c < 1000000) : jM_across L a c g = some (if acB a c = true then 1 else 0, g) := by rw [cM_across h0 h1 h2 h3, acB_i]
theorem cRg_acr (h0 : 0 ≤ a) (h1 : a < 1000000) (h2 : 0 ≤ c) (h3 : c < 1000000) : jRg_areAcross L a c g = some (if acB a c = true then 1 else 0, g) := by rw [cRg_areAcross h0 h1 h2 h3, acB_i]
theorem cM_isTaken (hV : VaV V) (hR : RfV V g) (h0 : 0 ≤ b) (h1 : b < V 0 0) (hr : 0 ≤ r ∧ r < 1000000) : jM_isTaken L b r g = some (if tkB V b r = true then 1 else 0, g) := by
  have hb := hV.1
  have hB := hV.2.2.2.2.1 b h0 h1
  have hg := hR.2.1 b h0 h1
  rw [jM_isTaken_eq]
  unfold tkB
  refine lp (F := fun i => jM_isTaken_5 L b r (if anB (fun i => shB (V (10 + b) i) r) i.toNat = true then 1 else 0) i g) (n := V 1 b) ?_ ?_ 0 (Int.le_refl _) hB.1.1
  · intro i h2 h3 ih
    rw [anB_s h2] at ih
    have hp := par_b hV h0 h1 h2 h3
    rw [jM_isTaken_5_eq, if_pos (by omega), hg.1, if_neg (by omega), iw_n (show 0 ≤ i + 1 by omega) (by omega)]
    simp only [b2n]
    cases h4 : anB (fun i => shB (V (10 + b) i) r) i.toNat
    · rw [h4] at ih
      rw [if_neg (by simp), iw_n (show 0 ≤ 6 * b by omega) (by omega), iw_n (show 0 ≤ 6 * b + i by omega) (by omega), if_pos (by omega), hg.2 i h2 h3, cM_meet (by omega) (by omega) hr.1 hr.2, bnd]
      dsimp only
      simp only [b2z]
      cases h5 : shB (V (10 + b) i) r <;> rw [h5] at ih <;> simpa using ih
    · rw [h4] at ih
      rw [if_pos (by simp)]
      simpa using ih
  · rw [jM_isTaken_5_eq, if_pos (by omega), hg.1, if_pos (Int.le_refl _)]
    simp only [b2b, if_true]
theorem cM_moves (hV : VaV V) (hR : RfV V g) (h0 : 0 ≤ e) (h1 : e < V 0 1) (h2 : 0 ≤ i) (h3 : i < V 1 (V 3 e)) : jM_moves L e i g = some (if vMv V e i = true then 1 else 0, g) := by
  rw [jM_moves_eq, cM_givenOf hV hR h0 h1 h2 h3, bnd, cM_parameterOf hV hR h0 h1 h2 h3, bnd]
  unfold vMv
  by_cases h : V (20 + e) i = V (10 + V 3 e) i <;> simp [h]
theorem edg_b (hV : VaV V) (h0 : 0 ≤ e) (h1 : e < V 0 1) (h2 : 0 ≤ i) (h3 : i < V 1 (V 3 e)) : (1 ≤ V (10 + V 3 e) i ∧ V (10 + V 3 e) i ≤ 319) ∧ (-100 ≤ V (20 + e) i ∧ V (20 + e) i ≤ 319) ∧ (0 ≤ V 1 (V 3 e) ∧ V 1 (V 3 e) ≤ 6) := by
  have hE := hV.2.2.2.2.2.1 e h0 h1
  exact ⟨par_b hV hE.2.1.1 hE.2.1.2 h2 h3, okA_b (hE.2.2.2 i h2 h3), (hV.2.2.2.2.1 _ hE.2.1.1 hE.2.1.2).1⟩
theorem edg_n (hV : VaV V) (h0 : 0 ≤ e) (h1 : e < V 0 1) : 0 ≤ V 1 (V 3 e) ∧ V 1 (V 3 e) ≤ 6 := by
  have hE := hV.2.2.2.2.2.1 e h0 h1
  exact (hV.2.2.2.2.1 _ hE.2.1.1 hE.2.1.2).1
theorem cM_isAcross (hV : VaV V) (hR : RfV V g) (h0 : 0 ≤ e) (h1 : e < V 0 1) (hr : 0 ≤ r ∧ r < 1000000) : jM_isAcross L e r g = some (if acR V e r = true then 1 else 0, g) := by
  have hn := edg_n hV h0 h1
  rw [jM_isAcross_eq]
  unfold acR
  refine lpx (F := fun i w => jM_isAcross_5 L e r (if anB (acF V e r) i.toNat = true then 1 else 0) i w g) (I := fun _ _ => True) (P := fun q => q = some (if anB (acF V e r) (V 1 (V 3 e)).toNat = true then 1 else 0, g)) (n := V 1 (V 3 e)) ?_ ?_ 0 vU (Int.le_refl _) hn.1 trivial
  · intro i w h2 h3 _ ih
    have ih := fun w => ih w trivial
    rw [anB_s h2] at ih
    have hb := edg_b hV h0 h1 h2 h3
    rw [jM_isAcross_5_eq, cM_manyOf hV hR h0 h1, bnd]
    dsimp only
    rw [if_neg (by omega), iw_n (show 0 ≤ i + 1 by omega) (by omega)]
    have hA : jM_across L (V (10 + V 3 e) i) r g = some (if acB (V (10 + V 3 e) i) r = true then 1 else 0, g) := cM_acr (by omega) (by omega) hr.1 hr.2
    have hf : acF V e r i = (vMv V e i && (acB (V (10 + V 3 e) i) r || (decide (0 < V (20 + e) i) && acB (V (20 + e) i) r))) := rfl
    rw [hf] at ih
    by_cases h6 : 0 < V (20 + e) i
    · have hC : jM_across L (V (20 + e) i) r g = some (if acB (V (20 + e) i) r = true then 1 else 0, g) := cM_acr (by omega) (by omega) hr.1 hr.2
      simp only [cM_parameterOf hV hR h0 h1 h2 h3, cM_moves hV hR h0 h1 h2 h3, cM_givenOf hV hR h0 h1 h2 h3, hA, hC, bnd, b2n, b2z]
      rw [if_neg (show ¬ V (20 + e) i ≤ 0 by omega)]
      cases h4 : anB (acF V e r) i.toNat <;> cases h5 : vMv V e i <;> cases h7 : acB (V (10 + V 3 e) i) r <;> cases h8 : acB (V (20 + e) i) r <;> rw [h4, h5, h7, h8] at ih <;> simp [h6] at ih ⊢ <;> exact ih _
    · simp only [cM_parameterOf hV hR h0 h1 h2 h3, cM_moves hV hR h0 h1 h2 h3, cM_givenOf hV hR h0 h1 h2 h3, hA, bnd, b2n, b2z]
      rw [if_pos (show V (20 + e) i ≤ 0 by omega)]
      cases h4 : anB (acF V e r) i.toNat <;> cases h5 : vMv V e i <;> cases h7 : acB (V (10 + V 3 e) i) r <;> rw [h4, h5, h7] at ih <;> simp [h6] at ih ⊢ <;> exact ih _
  · intro w _
    rw [jM_isAcross_5_eq, cM_manyOf hV hR h0 h1, bnd]
    dsimp only
    rw [if_pos (Int.le_refl _)]
    simp only [b2b, if_true]
theorem cM_isClear (hV : VaV V) (hR : RfV V g) (h0 : 0 ≤ e) (h1 : e < V 0 1) : jM_isClear L e g = some (if clB V e = true then 1 else 0, g) := by
  have hn := edg_n hV h0 h1
  rw [jM_isClear_eq]
  unfold clB
  refine lp (F := fun i => jM_isClear_4 L e (if anB (clF V e) i.toNat = true then 0 else 1) i g) (n := V 1 (V 3 e)) ?_ ?_ 0 (Int.le_refl _) hn.1
  · intro i h2 h3 ih
    rw [anB_s h2] at ih
    have hb := edg_b hV h0 h1 h2 h3
    rw [jM_isClear_4_eq, cM_manyOf hV hR h0 h1, bnd]
    dsimp only
    rw [if_neg (by omega), iw_n (show 0 ≤ i + 1 by omega) (by omega)]
    have hA := cM_isAcross (L := L) (r := V (10 + V 3 e) i) hV hR h0 h1 (by omega)
    have hf : clF V e i = (vMv V e i && (acR V e (V (10 + V 3 e) i) || (decide (0 ≤ V (20 + e) i) && acR V e (V (20 + e) i)))) := rfl
    rw [hf] at ih
    by_cases h6 : V (20 + e) i < 0
    · have h9 : ¬ 0 ≤ V (20 + e) i := by omega
      simp only [cM_parameterOf hV hR h0 h1 h2 h3, cM_moves hV hR h0 h1 h2 h3, cM_givenOf hV hR h0 h1 h2 h3, hA, bnd, b2n, b2z]
      rw [if_pos h6]
      cases h4 : anB (clF V e) i.toNat <;> cases h5 : vMv V e i <;> cases h7 : acR V e (V (10 + V 3 e) i) <;> rw [h4, h5, h7] at ih <;> simp [h9] at ih ⊢ <;> exact ih
    · have h9 : 0 ≤ V (20 + e) i := by omega
      have hC := cM_isAcross (L := L) (r := V (20 + e) i) hV hR h0 h1 (by omega)
      simp only [cM_parameterOf hV hR h0 h1 h2 h3, cM_moves hV hR h0 h1 h2 h3, cM_givenOf hV hR h0 h1 h2 h3, hA, hC, bnd, b2n, b2z]
      rw [if_neg h6]
      cases h4 : anB (clF V e) i.toNat <;> cases h5 : vMv V e i <;> cases h7 : acR V e (V (10 + V 3 e) i) <;> cases h8 : acR V e (V (20 + e) i) <;> rw [h4, h5, h7, h8] at ih <;> simp [h9] at ih ⊢ <;> exact ih
  · rw [jM_isClear_4_eq, cM_manyOf hV hR h0 h1, bnd]
    dsimp only
    rw [if_pos (Int.le_refl _)]
    cases anB (clF V e) (V 1 (V 3 e)).toNat <;> rfl
end REF2
