/-! free: what it answers, and the reference -/
def tcF (V : AMem) (e r i : Int) : Bool := shB (V (10 + V 3 e) i) r || (decide (0 ≤ V (20 + e) i) && shB (V (20 + e) i) r)
def tcB (V : AMem) (e r : Int) : Bool := anB (tcF V e r) (V 1 (V 3 e)).toNat
def frK (V : AMem) (e w : Int) : Nat → Int → Int
  | 0, _ => -201
  | k + 1, b => if 32 ≤ b then -201 else if tcB V e (10 * b + w) = true then frK V e w k (b + w) else 10 * b + w
def oFree (V : AMem) (e w : Int) : Int × AMem := if 0 ≤ e ∧ e < V 0 1 then (if isW w = true then (frK V e w 33 0, V) else rB V) else rB V
section FRE
variable {L : Nat} {V W g : AMem} {a b bt c d e f i j kd n p q r t w x : Int}
theorem oFree_V (hV : VaV V) : VaV (oFree V e w).2 := by
  unfold oFree
  repeat' split
  all_goals first
    | exact hV
    | exact rB_V hV
theorem cM_fr34 (hV : VaV V) (hR : RfV V g) (he0 : 0 ≤ e) (he1 : e < V 0 1) (hb0 : 0 ≤ b) (hb1 : b < 32) (hw0 : 1 ≤ w) (hw1 : w ≤ 4) : ∃ x y : AVal, jM_free_34 L e w b 1 0 g = if tcB V e (10 * b + w) = true then jM_free_22 L e w (b + w) x y g else some (10 * b + w, g) := by
  have hn := edg_n hV he0 he1
  refine ⟨vI 0, vI (V 1 (V 3 e)), ?_⟩
  have i1 : iw (iw (10 * b) + w) = 10 * b + w := by rw [iw_n (show 0 ≤ 10 * b by omega) (by omega), iw_n (by omega) (by omega)]
  have i2 : iw (b + w) = b + w := iw_n (by omega) (by omega)
  unfold tcB
  refine lp (F := fun i => jM_free_34 L e w b (if anB (tcF V e (10 * b + w)) i.toNat = true then 0 else 1) i g) (n := V 1 (V 3 e)) ?_ ?_ 0 (Int.le_refl _) hn.1
  · intro i h2 h3 ih
    rw [anB_s h2] at ih
    have hb := edg_b hV he0 he1 h2 h3
    have hf : tcF V e (10 * b + w) i = (shB (V (10 + V 3 e) i) (10 * b + w) || (decide (0 ≤ V (20 + e) i) && shB (V (20 + e) i) (10 * b + w))) := rfl
    rw [hf] at ih
    have hm1 : jM_meet L (V (10 + V 3 e) i) (10 * b + w) g = some (if shB (V (10 + V 3 e) i) (10 * b + w) = true then 1 else 0, g) := cM_meet (by omega) (by omega) (by omega) (by omega)
    rw [jM_free_34_eq, cM_manyOf hV hR he0 he1, bnd, iw_n (show 0 ≤ i + 1 by omega) (by omega), i1]
    dsimp only
    rw [if_neg (show ¬ V 1 (V 3 e) ≤ i by omega)]
    simp only [cM_parameterOf hV hR he0 he1 h2 h3, cM_givenOf hV hR he0 he1 h2 h3, hm1, bnd, ifn]
    by_cases h6 : V (20 + e) i < 0
    · have h9 : ¬ 0 ≤ V (20 + e) i := by omega
      rw [if_pos h6]
      cases h4 : anB (tcF V e (10 * b + w)) i.toNat <;> cases h5 : shB (V (10 + V 3 e) i) (10 * b + w) <;> rw [h4, h5] at ih <;> simp [h9] at ih ⊢ <;> exact ih
    · have h9 : 0 ≤ V (20 + e) i := by omega
      have hm2 : jM_meet L (V (20 + e) i) (10 * b + w) g = some (if shB (V (20 + e) i) (10 * b + w) = true then 1 else 0, g) := cM_meet (by omega) (by omega) (by omega) (by omega)
      simp only [hm2, bnd, ifn]
      rw [if_neg h6]
      cases h4 : anB (tcF V e (10 * b + w)) i.toNat <;> cases h5 : shB (V (10 + V 3 e) i) (10 * b + w) <;> cases h7 : shB (V (20 + e) i) (10 * b + w) <;> rw [h4, h5, h7] at ih <;> simp [h9] at ih ⊢ <;> exact ih
  · rw [jM_free_34_eq, cM_manyOf hV hR he0 he1, bnd, i1, i2]
    dsimp only
    rw [if_pos (Int.le_refl _)]
    cases anB (tcF V e (10 * b + w)) (V 1 (V 3 e)).toNat <;> simp
theorem cM_fr22 (hV : VaV V) (hR : RfV V g) (he0 : 0 ≤ e) (he1 : e < V 0 1) (hw0 : 1 ≤ w) (hw1 : w ≤ 4) : ∀ (k : Nat) (b : Int) (x y : AVal), 0 ≤ b → 32 < b + k → jM_free_22 L e w b x y g = some (frK V e w k b, g)
  | 0, b, x, y, h0, h1 => by
    rw [jM_free_22_eq, if_pos (by omega), frK]
  | k + 1, b, x, y, h0, h1 => by
    rw [jM_free_22_eq, frK]
    by_cases q : 32 ≤ b
    · rw [if_pos q, if_pos q]
    · obtain ⟨x', y', a1⟩ := cM_fr34 (L := L) hV hR he0 he1 h0 (show b < 32 by omega) hw0 hw1
      rw [if_neg q, if_neg q, a1]
      by_cases q2 : tcB V e (10 * b + w) = true
      · rw [if_pos q2, if_pos q2]
        exact cM_fr22 hV hR he0 he1 hw0 hw1 k (b + w) x' y' (by omega) (by omega)
      · rw [if_neg q2, if_neg q2]
theorem cM_free (hV : VaV V) (hR : RfV V g) : RO (oFree V e w) (jM_free L e w g) g := by
  rw [jM_free_eq, cM_isEdge hV hR, bnd]
  dsimp only
  rw [ifz, bns, cM_isWidth, bnd]
  dsimp only
  rw [ifn, bns]
  unfold oFree
  by_cases he : 0 ≤ e ∧ e < V 0 1
  · rw [if_pos he, if_pos he]
    by_cases hw : isW w = true
    · have hw2 := hw
      unfold isW at hw2
      simp only [decide_eq_true_eq] at hw2
      rw [if_pos hw, if_pos hw, cM_fr22 hV hR he.1 he.2 (by omega) (by omega) 33 0 vU vU (by omega) (by omega)]
      exact RO_s hR
    · rw [if_neg hw, if_neg hw]
      exact RO_B hR
  · rw [if_neg he, if_neg he]
    exact RO_B hR
end FRE
