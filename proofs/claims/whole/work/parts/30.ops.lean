/-! what the document asks of the plain calls, and the reference's answers -/
def rB (V : AMem) : Int × AMem := (-202, up V 0 3 (iw (V 0 3 + 1)))
def rN (V : AMem) : Int × AMem := (-203, up V 0 4 (iw (V 0 4 + 1)))
def rF (V : AMem) : Int × AMem := (-204, up V 0 5 (iw (V 0 5 + 1)))
def mgB (w p : Int) : Bool := decide ((-100 ≤ w ∧ w < 0) ∨ (isRg w = true ∧ w % 10 = p % 10))
def tlV (V : AMem) (w : Int) : Int := if w = 0 then V 0 3 else if w = 1 then V 0 4 else if w = 2 then V 0 5 else if w = 3 then V 0 6 else if w = 4 then V 0 0 else if w = 5 then V 0 1 else V 0 2
def oAnew (V : AMem) : Int × AMem := (V 0 1, up (up V 0 0 0) 0 1 0)
def oBlock (V : AMem) : Int × AMem := if V 0 0 = 10 then rF V else (V 0 0, nbV V)
def oParameter (V : AMem) (b r : Int) : Int × AMem := if 0 ≤ b ∧ b < V 0 0 then (if isRg r = true then (if tkB V b r = true then rN V else if V 1 b = 6 then rF V else (V 1 b, npV V b r)) else rB V) else rB V
def oEdge (V : AMem) (f t w : Int) : Int × AMem := if 0 ≤ f ∧ f < V 0 0 then (if 0 ≤ t ∧ t < V 0 0 then (if 0 ≤ w ∧ w ≤ 99 then (if V 0 1 = 16 then rF V else (V 0 1, neV V f t w)) else rB V) else rB V) else rB V
def oArgument (V : AMem) (e i w : Int) : Int × AMem := if 0 ≤ e ∧ e < V 0 1 then (if 0 ≤ i ∧ i < V 1 (V 3 e) then (if mgB w (V (10 + V 3 e) i) = true then (V (20 + e) i, up V (20 + e) i w) else rB V) else rB V) else rB V
def oWeight (V : AMem) (e w : Int) : Int × AMem := if 0 ≤ e ∧ e < V 0 1 then (if 0 ≤ w ∧ w ≤ 99 then (V 4 e, up V 4 e w) else rB V) else rB V
def oMachine (V : AMem) (k : Int) : Int × AMem := if 0 ≤ k ∧ k ≤ 4 then (V 0 2, up V 0 2 k) else rB V
def oOf (V : AMem) (e w : Int) : Int × AMem := if 0 ≤ e ∧ e < V 0 1 then (if 0 ≤ w ∧ w ≤ 4 then (if w = 0 then V 2 e else if w = 1 then V 3 e else if w = 2 then V 4 e else if w = 3 then (if clB V e = true then 1 else 0) else whV V e, V) else rB V) else rB V
def oAbout (V : AMem) (b w : Int) : Int × AMem := if 0 ≤ b ∧ b < V 0 0 then (if 0 ≤ w ∧ w ≤ 2 then (if w = 0 then V 1 b else if w = 1 then frC V b else toC V b, V) else rB V) else rB V
def oRegion (V : AMem) (b i : Int) : Int × AMem := if 0 ≤ b ∧ b < V 0 0 then (if 0 ≤ i then (if i < V 1 b then V (10 + b) i else -201, V) else rB V) else rB V
def oGiven (V : AMem) (e i : Int) : Int × AMem := if 0 ≤ e ∧ e < V 0 1 then (if 0 ≤ i then (if i < V 1 (V 3 e) then V (20 + e) i else -201, V) else rB V) else rB V
def oType (V : AMem) (c : Int) : Int × AMem := if 0 ≤ c ∧ c ≤ 127 then (if V 0 6 = 120 then rF V else (V 0 6 + 1, up (up V 5 (V 0 6) c) 0 6 (V 0 6 + 1))) else rB V
def oClear (V : AMem) : Int × AMem := (V 0 6, up V 0 6 0)
def oTold (V : AMem) (w : Int) : Int × AMem := if 0 ≤ w ∧ w ≤ 6 then (tlV V w, V) else rB V
theorem ifz {α : Type} {P : Prop} [Decidable P] {A B : α} : (if (if P then (1 : Int) else 0) = 0 then A else B) = if P then B else A := by
  by_cases h : P <;> simp [h]
theorem ifn {α : Type} {P : Prop} [Decidable P] {A B : α} : (if (if P then (1 : Int) else 0) ≠ 0 then A else B) = if P then A else B := by
  by_cases h : P <;> simp [h]
theorem bns {α β : Type} {q : Option (α × β)} : (q.bind fun x => some (x.1, x.2)) = q := by cases q <;> rfl
def RO (o : Int × AMem) (q : Option (Int × AMem)) (g : AMem) : Prop := ∃ g', q = some (o.1, g') ∧ RfV o.2 g' ∧ Lo g g'
section OPS
variable {L : Nat} {V g : AMem} {a b c e f i k r t w : Int}
theorem RO_B (hR : RfV V g) : RO (rB V) (jM_bad L g) g := by
  refine ⟨_, cM_bad, ?_, Lo_u Lo_r (by omega)⟩
  rw [hR.1.2.2.2.1]
  exact RfV_0 hR (Or.inl rfl)
theorem RO_N (hR : RfV V g) : RO (rN V) (jM_no L g) g := by
  refine ⟨_, cM_no, ?_, Lo_u Lo_r (by omega)⟩
  rw [hR.1.2.2.2.2.1]
  exact RfV_0 hR (Or.inr (Or.inl rfl))
theorem RO_F (hR : RfV V g) : RO (rF V) (jM_full L g) g := by
  refine ⟨_, cM_full, ?_, Lo_u Lo_r (by omega)⟩
  rw [hR.1.2.2.2.2.2.1]
  exact RfV_0 hR (Or.inr (Or.inr rfl))
theorem RO_s (hR : RfV V g) : RO (w, V) (some (w, g)) g := ⟨g, rfl, hR, Lo_r⟩
theorem rB_V (hV : VaV V) : VaV (rB V).2 := VaV_0 hV (Or.inl rfl)
theorem rN_V (hV : VaV V) : VaV (rN V).2 := VaV_0 hV (Or.inr (Or.inl rfl))
theorem rF_V (hV : VaV V) : VaV (rF V).2 := VaV_0 hV (Or.inr (Or.inr rfl))
theorem oAnew_V (hV : VaV V) : VaV (oAnew V).2 := by
  unfold oAnew
  dsimp only
  have n : ∀ a k, a ≠ 0 ∨ (k ≠ 0 ∧ k ≠ 1) → up (up V 0 0 0) 0 1 0 a k = V a k := fun a k q => by rw [up_n (by omega), up_n (by omega)]
  have n0 : up (up V 0 0 0) 0 1 0 0 0 = 0 := by rw [up_n (by omega), up_s]
  have n1 : up (up V 0 0 0) 0 1 0 0 1 = 0 := up_s
  obtain ⟨h0, h1, h2, h3, h4, h5, h6⟩ := hV
  refine ⟨by rw [n0]; omega, by rw [n1]; omega, by rw [n _ _ (by omega)]; exact h2, by rw [n _ _ (by omega)]; exact h3, fun b q0 q1 => ?_, fun e q0 q1 => ?_, fun i q0 q1 => ?_⟩
  · rw [n0] at q1
    omega
  · rw [n1] at q1
    omega
  · rw [n _ _ (by omega)] at q1
    rw [n _ _ (by omega)]
    exact h6 i q0 q1
theorem cM_anew (hR : RfV V g) : RO (oAnew V) (jM_anew L g) g := by
  rw [jM_anew_eq, hR.1.2.1]
  refine ⟨_, rfl, ?_, Lo_u (Lo_u Lo_r (by omega)) (by omega)⟩
  unfold oAnew
  have n : ∀ a k, a ≠ 0 ∨ (k ≠ 0 ∧ k ≠ 1) → up (up V 0 0 0) 0 1 0 a k = V a k := fun a k q => by rw [up_n (by omega), up_n (by omega)]
  have n0 : up (up V 0 0 0) 0 1 0 0 0 = 0 := by rw [up_n (by omega), up_s]
  have n1 : up (up V 0 0 0) 0 1 0 0 1 = 0 := up_s
  have m : ∀ a k, a ≠ 137 ∨ (k ≠ 1 ∧ k ≠ 2) → up (up g 137 1 0) 137 2 0 a k = g a k := fun a k q => by rw [up_n (by omega), up_n (by omega)]
  have m1 : up (up g 137 1 0) 137 2 0 137 1 = 0 := by rw [up_n (by omega), up_s]
  have m2 : up (up g 137 1 0) 137 2 0 137 2 = 0 := up_s
  obtain ⟨r0, r1, r2, r3⟩ := hR
  dsimp only
  refine ⟨⟨by rw [n0, m1], by rw [n1, m2], ?_⟩, fun b q0 q1 => ?_, fun e q0 q1 => ?_, fun i q0 q1 => ?_⟩
  · rw [n _ _ (by omega), n _ _ (by omega), n _ _ (by omega), n _ _ (by omega), n _ _ (by omega), m _ _ (by omega), m _ _ (by omega), m _ _ (by omega), m _ _ (by omega), m _ _ (by omega)]
    exact r0.2.2
  · rw [n0] at q1
    omega
  · rw [n1] at q1
    omega
  · rw [n _ _ (by omega)] at q1
    rw [n _ _ (by omega), m _ _ (by omega)]
    exact r3 i q0 q1
theorem oBlock_V (hV : VaV V) : VaV (oBlock V).2 := by
  have h0 := hV.1
  unfold oBlock
  split
  · exact rF_V hV
  · exact VaV_nb hV (by omega)
theorem cM_block (hV : VaV V) (hR : RfV V g) : RO (oBlock V) (jM_block L g) g := by
  have h0 := hV.1
  rw [jM_block_eq, hR.1.1, bns, bns]
  unfold oBlock
  by_cases h : V 0 0 = 10
  · rw [if_pos h, if_neg (by omega)]
    exact RO_F hR
  · rw [if_neg h, if_pos h]
    exact cM_newBlock hV hR (by omega)
theorem oParameter_V (hV : VaV V) : VaV (oParameter V b r).2 := by
  unfold oParameter
  split
  · rename_i hb
    split
    · rename_i hr
      split
      · exact rN_V hV
      · rename_i ht
        split
        · exact rF_V hV
        · have hm := (hV.2.2.2.2.1 b hb.1 hb.2).1
          refine VaV_np hV hb.1 hb.2 (by omega) hr (fun i hi0 hi1 => ?_)
          have h := anB_f.mp (Bool.eq_false_iff.mpr ht) i hi0 (by omega)
          exact h
    · exact rB_V hV
  · exact rB_V hV
theorem cM_parameter (hV : VaV V) (hR : RfV V g) (hc : cno r) : RO (oParameter V b r) (jM_parameter L b r g) g := by
  rw [jM_parameter_eq, cM_isBlock hV hR, bnd]
  simp only [bns, ifz, ifn]
  unfold oParameter
  by_cases hb : 0 ≤ b ∧ b < V 0 0
  · rw [if_pos hb, if_pos hb, cM_isRegion hc, bnd]
    simp only [bns, ifz, ifn]
    by_cases hr : isRg r = true
    · have hr2 := isRg_b hr
      have hm := (hV.2.2.2.2.1 b hb.1 hb.2).1
      rw [if_pos hr, if_pos hr, cM_isTaken hV hR hb.1 hb.2 (by omega), bnd]
      simp only [bns, ifz, ifn]
      by_cases ht : tkB V b r = true
      · rw [if_pos ht, if_pos ht]
        exact RO_N hR
      · rw [if_neg ht, if_neg ht, if_pos (show 0 ≤ b ∧ b < 10 by have := hV.1; omega), (hR.2.1 b hb.1 hb.2).1]
        by_cases h6 : V 1 b = 6
        · rw [if_pos h6, if_neg (by omega)]
          exact RO_F hR
        · rw [if_neg h6, if_pos h6]
          exact cM_newParameter hV hR hb.1 hb.2 (by omega)
    · rw [if_neg hr, if_neg hr]
      exact RO_B hR
  · rw [if_neg hb, if_neg hb]
    exact RO_B hR
theorem oEdge_V (hV : VaV V) : VaV (oEdge V f t w).2 := by
  have h1 := hV.2.1
  unfold oEdge
  split
  · rename_i hf
    split
    · rename_i ht
      split
      · rename_i hw
        split
        · exact rF_V hV
        · exact VaV_ne hV hf.1 hf.2 ht.1 ht.2 hw.1 hw.2 (by omega)
      · exact rB_V hV
    · exact rB_V hV
  · exact rB_V hV
theorem cM_edge (hV : VaV V) (hR : RfV V g) : RO (oEdge V f t w) (jM_edge L f t w g) g := by
  have h1 := hV.2.1
  rw [jM_edge_eq, cM_isBlock hV hR, bnd]
  simp only [bns, ifz, ifn, cM_isBlock hV hR, cM_in, bnd]
  unfold oEdge
  rw [hR.1.2.1]
  by_cases hf : 0 ≤ f ∧ f < V 0 0
  · rw [if_pos hf, if_pos hf]
    by_cases ht : 0 ≤ t ∧ t < V 0 0
    · rw [if_pos ht, if_pos ht]
      by_cases hw : 0 ≤ w ∧ w ≤ 99
      · rw [if_pos hw, if_pos hw]
        by_cases hn : V 0 1 = 16
        · rw [if_pos hn, if_neg (by omega)]
          exact RO_F hR
        · rw [if_neg hn, if_pos hn]
          exact cM_newEdge hV hR ht.1 ht.2 (by omega)
      · rw [if_neg hw, if_neg hw]
        exact RO_B hR
    · rw [if_neg ht, if_neg ht]
      exact RO_B hR
  · rw [if_neg hf, if_neg hf]
    exact RO_B hR
theorem cM_mayBeGiven (hV : VaV V) (hR : RfV V g) (hc : cno w) (he0 : 0 ≤ e) (he1 : e < V 0 1) (hi0 : 0 ≤ i) (hi1 : i < V 1 (V 3 e)) : jM_mayBeGiven L e i w g = some (if mgB w (V (10 + V 3 e) i) = true then 1 else 0, g) := by
  have hp := (edg_b hV he0 he1 hi0 hi1).1
  unfold cno at hc
  rw [jM_mayBeGiven_eq]
  unfold mgB
  simp only [decide_eq_true_eq]
  by_cases h0 : 0 ≤ w
  · rw [if_pos h0]
    simp only [cM_isRegion hc, cM_widthOf h0 hc.2, cM_parameterOf hV hR he0 he1 hi0 hi1, cM_widthOf (show 0 ≤ V (10 + V 3 e) i by omega) (show V (10 + V 3 e) i < 2147483648 by omega), bnd, ifz]
    by_cases hr : isRg w = true
    · rw [if_pos hr]
      by_cases hw : w % 10 = V (10 + V 3 e) i % 10
      · rw [if_neg (by simp [hw]), if_pos (Or.inr ⟨hr, hw⟩)]
      · rw [if_pos hw, if_neg (by omega)]
    · rw [if_neg hr, if_neg (fun q => by rcases q with q | q; omega; exact hr q.1)]
  · rw [if_neg h0]
    by_cases h1 : w < -100
    · rw [if_pos h1, if_neg (fun q => by rcases q with q | q; omega; have := isRg_b q.1; omega)]
    · rw [if_neg h1, if_pos (by omega)]
theorem oArgument_V (hV : VaV V) : VaV (oArgument V e i w).2 := by
  unfold oArgument
  split
  · rename_i he
    split
    · rename_i hi
      split
      · rename_i hm
        unfold mgB at hm
        simp only [decide_eq_true_eq] at hm
        exact VaV_up hV he.1 hi.1 hm
      · exact rB_V hV
    · exact rB_V hV
  · exact rB_V hV
theorem cM_argument (hV : VaV V) (hR : RfV V g) (hc : cno w) : RO (oArgument V e i w) (jM_argument L e i w g) g := by
  have h1 := hV.2.1
  rw [jM_argument_eq, cM_isEdge hV hR, bnd]
  simp only [bns, ifz]
  unfold oArgument
  by_cases he : 0 ≤ e ∧ e < V 0 1
  · have hn := edg_n hV he.1 he.2
    rw [if_pos he, if_pos he, cM_manyOf hV hR he.1 he.2, bnd]
    dsimp only
    rw [cM_in, bnd, iw_s (by omega)]
    simp only [bns, ifz]
    by_cases hi : 0 ≤ i ∧ i < V 1 (V 3 e)
    · rw [if_pos (show 0 ≤ i ∧ i ≤ V 1 (V 3 e) - 1 by omega), if_pos hi, cM_mayBeGiven hV hR hc he.1 he.2 hi.1 hi.2, bnd]
      simp only [bns, ifn]
      by_cases hm : mgB w (V (10 + V 3 e) i) = true
      · rw [if_pos hm, if_pos hm, cM_givenOf hV hR he.1 he.2 hi.1 hi.2, bnd]
        dsimp only
        rw [iw_n (show 0 ≤ 6 * e by omega) (by omega), iw_n (show 0 ≤ 6 * e + i by omega) (by omega), if_pos (by omega)]
        exact ⟨_, rfl, RfV_up hV hR he.1 he.2 hi.1 (by omega), Lo_u Lo_r (by omega)⟩
      · rw [if_neg hm, if_neg hm]
        exact RO_B hR
    · rw [if_neg (show ¬ (0 ≤ i ∧ i ≤ V 1 (V 3 e) - 1) by omega), if_neg hi]
      exact RO_B hR
  · rw [if_neg he, if_neg he]
    exact RO_B hR
end OPS
