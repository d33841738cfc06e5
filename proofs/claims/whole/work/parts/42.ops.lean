/-! steps, step, cost, cheapest: what they answer, and the reference -/
def oSteps (V : AMem) (e w : Int) : Int × AMem := if 0 ≤ e ∧ e < V 0 1 then (if 0 ≤ w ∧ w ≤ 4 then (if clB V e = true then (cdV w (plV V e (V 0 2)), V) else rN V) else rB V) else rB V
def stA (W : AMem) (k w : Int) : Int := if k < W 0 0 then (if w = 0 then W 1 k else if w = 1 then W 2 k else W 3 k) else -201
def oStep (V : AMem) (e k w : Int) : Int × AMem := if 0 ≤ e ∧ e < V 0 1 then (if k < 0 then rB V else if 0 ≤ w ∧ w ≤ 2 then (if clB V e = true then (stA (plV V e (V 0 2)) k w, V) else rN V) else rB V) else rB V
def oCost (V : AMem) (e : Int) : Int × AMem := if 0 ≤ e ∧ e < V 0 1 then (if clB V e = true then (coV V e (V 0 2), V) else rN V) else rB V
def chp (V : AMem) (e : Int) : Nat → Int × Int
  | 0 => (-201, 1048576)
  | k + 1 => if coV V e k < (chp V e k).2 then ((k : Int), coV V e k) else chp V e k
def oCheapest (V : AMem) (e w : Int) : Int × AMem := if 0 ≤ e ∧ e < V 0 1 then (if 0 ≤ w ∧ w ≤ 1 then (if clB V e = true then (if w = 0 then (chp V e 5).1 else (chp V e 5).2, V) else rN V) else rB V) else rB V
section OPS3
variable {L : Nat} {V W g : AMem} {b bt c d e f i j k kd n p q r t w x : Int}
theorem RO_sc {h : AMem} (hR : RfV V g) (hS : Sp g h) : RO (w, V) (some (w, h)) g := ⟨h, rfl, RfV_sp hR hS, Sp_lo hS⟩
theorem oSteps_V (hV : VaV V) : VaV (oSteps V e w).2 := by
  unfold oSteps
  repeat' split
  all_goals first
    | exact hV
    | exact rB_V hV
    | exact rN_V hV
theorem oStep_V (hV : VaV V) : VaV (oStep V e k w).2 := by
  unfold oStep
  repeat' split
  all_goals first
    | exact hV
    | exact rB_V hV
    | exact rN_V hV
theorem oCost_V (hV : VaV V) : VaV (oCost V e).2 := by
  unfold oCost
  repeat' split
  all_goals first
    | exact hV
    | exact rB_V hV
    | exact rN_V hV
theorem oCheapest_V (hV : VaV V) : VaV (oCheapest V e w).2 := by
  unfold oCheapest
  repeat' split
  all_goals first
    | exact hV
    | exact rB_V hV
    | exact rN_V hV
theorem cM_steps (hV : VaV V) (hR : RfV V g) : RO (oSteps V e w) (jM_steps L e w g) g := by
  rw [jM_steps_eq, cM_isEdge hV hR, bnd]
  dsimp only
  rw [ifz, bns, cM_in, bnd]
  dsimp only
  rw [ifn, bns]
  unfold oSteps
  by_cases he : 0 ≤ e ∧ e < V 0 1
  · rw [if_pos he, if_pos he]
    by_cases hw : 0 ≤ w ∧ w ≤ 4
    · rw [if_pos hw, if_pos hw, cM_isClear hV hR he.1 he.2, bnd]
      dsimp only
      rw [ifn, bns]
      by_cases hc : clB V e = true
      · obtain ⟨g1, a1, a2, a3⟩ := cM_setSteps (L := L) (kd := g 137 3) hV hR he.1 he.2
        rw [if_pos hc, if_pos hc, a1, bnd, bns]
        rw [hR.1.2.2.1] at a2
        have h9 := plV_9 (kd := V 0 2) hV he.1 he.2
        rw [cM_counted a2 h9.1 h9.2 hw.1 hw.2]
        exact RO_sc hR a3
      · rw [if_neg hc, if_neg hc]
        exact RO_N hR
    · rw [if_neg hw, if_neg hw]
      exact RO_B hR
  · rw [if_neg he, if_neg he]
    exact RO_B hR
theorem cM_step (hV : VaV V) (hR : RfV V g) : RO (oStep V e k w) (jM_step L e k w g) g := by
  rw [jM_step_eq, cM_isEdge hV hR, bnd]
  dsimp only
  rw [ifz, bns, cM_in, bnd]
  dsimp only
  rw [ifn, bns]
  unfold oStep
  by_cases he : 0 ≤ e ∧ e < V 0 1
  · rw [if_pos he, if_pos he]
    by_cases hk : k < 0
    · rw [if_pos hk, if_pos hk]
      exact RO_B hR
    rw [if_neg hk, if_neg hk]
    by_cases hw : 0 ≤ w ∧ w ≤ 2
    · rw [if_pos hw, if_pos hw, cM_isClear hV hR he.1 he.2, bnd]
      dsimp only
      rw [ifn, bns]
      by_cases hc : clB V e = true
      · obtain ⟨g1, a1, a2, a3⟩ := cM_setSteps (L := L) (kd := g 137 3) hV hR he.1 he.2
        rw [if_pos hc, if_pos hc, a1, bnd]
        rw [hR.1.2.2.1] at a2
        have h9 := plV_9 (kd := V 0 2) hV he.1 he.2
        rw [a2.1]
        unfold stA
        by_cases h1 : k < plV V e (V 0 2) 0 0
        · have hq := a2.2.1 k (by omega) h1
          have h24 : 0 ≤ k ∧ k < 24 := by omega
          rw [if_pos h1, if_pos h1, if_pos h24, if_pos h24, if_pos h24, hq.1, hq.2.1, hq.2.2]
          by_cases w0 : w = 0
          · rw [if_neg (show ¬ w ≠ 0 by omega), if_pos w0]
            exact RO_sc hR a3
          · rw [if_pos w0, if_neg w0]
            by_cases w1 : w = 1
            · rw [if_neg (show ¬ w ≠ 1 by omega), if_pos w1]
              exact RO_sc hR a3
            · rw [if_pos w1, if_neg w1]
              exact RO_sc hR a3
        · rw [if_neg h1, if_neg h1]
          exact RO_sc hR a3
      · rw [if_neg hc, if_neg hc]
        exact RO_N hR
    · rw [if_neg hw, if_neg hw]
      exact RO_B hR
  · rw [if_neg he, if_neg he]
    exact RO_B hR
theorem cM_cost (hV : VaV V) (hR : RfV V g) : RO (oCost V e) (jM_cost L e g) g := by
  rw [jM_cost_eq, cM_isEdge hV hR, bnd]
  dsimp only
  rw [ifn, bns]
  unfold oCost
  by_cases he : 0 ≤ e ∧ e < V 0 1
  · rw [if_pos he, if_pos he, cM_isClear hV hR he.1 he.2, bnd]
    dsimp only
    rw [ifz, bns, bns]
    by_cases hc : clB V e = true
    · obtain ⟨g1, a1, a2, a3⟩ := cM_costBy (L := L) (kd := g 137 3) hV hR he.1 he.2
      rw [if_pos hc, if_pos hc, a1, hR.1.2.2.1]
      exact RO_sc hR a3
    · rw [if_neg hc, if_neg hc]
      exact RO_N hR
  · rw [if_neg he, if_neg he]
    exact RO_B hR
theorem chp_s (h : 0 ≤ i) : chp V e (i + 1).toNat = if coV V e i < (chp V e i.toNat).2 then (i, coV V e i) else chp V e i.toNat := by
  have e1 : (i + 1).toNat = i.toNat + 1 := by omega
  have e2 : ((i.toNat : Nat) : Int) = i := by omega
  rw [e1, chp, e2]
theorem cM_cheap46 (hV : VaV V) (hR : RfV V g) (he0 : 0 ≤ e) (he1 : e < V 0 1) : ∃ g', jM_cheapest_46 L e w (-201) 1048576 0 vU g = some (if w = 0 then (chp V e 5).1 else (chp V e 5).2, g') ∧ Sp g g' := by
  refine lpx (F := fun i s => jM_cheapest_46 L e w (chp V e i.toNat).1 (chp V e i.toNat).2 i s.1 s.2) (σ := AVal × AMem) (I := fun _ s => Sp g s.2) (P := fun q => ∃ g', q = some (if w = 0 then (chp V e 5).1 else (chp V e 5).2, g') ∧ Sp g g') (n := 5) ?_ ?_ 0 (vU, g) (Int.le_refl _) (by omega) Sp_r
  · intro i s h2 h3 hI ih
    rw [chp_s h2] at ih
    obtain ⟨g1, a1, a2, a3⟩ := cM_costBy (L := L) (kd := i) hV (RfV_sp hR hI) he0 he1
    rw [jM_cheapest_46_eq, if_neg (by omega), a1, bnd, iw_n (by omega) (by omega)]
    dsimp only
    by_cases q : coV V e i < (chp V e i.toNat).2
    · rw [if_neg (by omega), if_neg (by omega)]
      rw [if_pos q] at ih
      exact ih (_, g1) (Sp_t hI a3)
    · rw [if_pos (by omega), if_pos (by omega)]
      rw [if_neg q] at ih
      exact ih (_, g1) (Sp_t hI a3)
  · intro s hI
    refine ⟨s.2, ?_, hI⟩
    rw [jM_cheapest_46_eq, if_pos (by omega), show (5 : Int).toNat = 5 by rfl]
    by_cases q : w = 0
    · rw [if_neg (by omega), if_pos q]
    · rw [if_pos q, if_neg q]
theorem cM_cheapest (hV : VaV V) (hR : RfV V g) : RO (oCheapest V e w) (jM_cheapest L e w g) g := by
  rw [jM_cheapest_eq, cM_isEdge hV hR, bnd]
  dsimp only
  rw [ifz, bns, cM_in, bnd]
  dsimp only
  rw [ifn, bns]
  unfold oCheapest
  by_cases he : 0 ≤ e ∧ e < V 0 1
  · rw [if_pos he, if_pos he]
    by_cases hw : 0 ≤ w ∧ w ≤ 1
    · rw [if_pos hw, if_pos hw, cM_isClear hV hR he.1 he.2, bnd]
      dsimp only
      rw [ifn, bns]
      by_cases hc : clB V e = true
      · obtain ⟨g1, a1, a3⟩ := cM_cheap46 (L := L) (w := w) hV hR he.1 he.2
        rw [if_pos hc, if_pos hc, a1]
        exact RO_sc hR a3
      · rw [if_neg hc, if_neg hc]
        exact RO_N hR
    · rw [if_neg hw, if_neg hw]
      exact RO_B hR
  · rw [if_neg he, if_neg he]
    exact RO_B hR
end OPS3
