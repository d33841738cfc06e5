/-! the document's state, and the reference's memory that holds it -/
def okA (a p : Int) : Prop := (-100 ≤ a ∧ a < 0) ∨ (isRg a = true ∧ a % 10 = p % 10)
def VaV (V : AMem) : Prop := (0 ≤ V 0 0 ∧ V 0 0 ≤ 10) ∧ (0 ≤ V 0 1 ∧ V 0 1 ≤ 16) ∧ (0 ≤ V 0 2 ∧ V 0 2 ≤ 4) ∧ (0 ≤ V 0 6 ∧ V 0 6 ≤ 120) ∧
  (∀ b, 0 ≤ b → b < V 0 0 → (0 ≤ V 1 b ∧ V 1 b ≤ 6) ∧ (∀ i, 0 ≤ i → i < V 1 b → isRg (V (10 + b) i) = true) ∧ ∀ i j, 0 ≤ i → i < j → j < V 1 b → shB (V (10 + b) i) (V (10 + b) j) = false) ∧
  (∀ e, 0 ≤ e → e < V 0 1 → (0 ≤ V 2 e ∧ V 2 e < V 0 0) ∧ (0 ≤ V 3 e ∧ V 3 e < V 0 0) ∧ (0 ≤ V 4 e ∧ V 4 e ≤ 99) ∧ ∀ i, 0 ≤ i → i < V 1 (V 3 e) → okA (V (20 + e) i) (V (10 + V 3 e) i)) ∧
  ∀ i, 0 ≤ i → i < V 0 6 → 0 ≤ V 5 i ∧ V 5 i ≤ 127
def RfV (V g : AMem) : Prop := (g 137 1 = V 0 0 ∧ g 137 2 = V 0 1 ∧ g 137 3 = V 0 2 ∧ g 138 0 = V 0 3 ∧ g 138 1 = V 0 4 ∧ g 138 2 = V 0 5 ∧ g 137 24 = V 0 6) ∧
  (∀ b, 0 ≤ b → b < V 0 0 → g 139 b = V 1 b ∧ ∀ i, 0 ≤ i → i < V 1 b → g 140 (6 * b + i) = V (10 + b) i) ∧
  (∀ e, 0 ≤ e → e < V 0 1 → g 141 e = V 2 e ∧ g 142 e = V 3 e ∧ g 143 e = V 4 e ∧ ∀ i, 0 ≤ i → i < V 1 (V 3 e) → g 144 (6 * e + i) = V (20 + e) i) ∧
  ∀ i, 0 ≤ i → i < V 0 6 → g 156 i = V 5 i
theorem b2z {c : Prop} [Decidable c] : ((if c then (1 : Int) else 0) = 0) ↔ ¬ c := by split <;> simp_all
theorem b2n {c : Prop} [Decidable c] : ((if c then (1 : Int) else 0) ≠ 0) ↔ c := by split <;> simp_all
theorem b2b {c : Prop} [Decidable c] : ((if c then (1 : Int) else 0) = 0 ∨ (if c then (1 : Int) else 0) = 1) ↔ True := by split <;> simp
section REF
variable {L : Nat} {V g : AMem} {a b c e i r w : Int}
theorem cM_bad : jM_bad L g = some (-202, up g 138 0 (iw (g 138 0 + 1))) := by
  rw [jM_bad_eq, if_pos (by omega), if_pos (by omega)]
theorem cM_no : jM_no L g = some (-203, up g 138 1 (iw (g 138 1 + 1))) := by
  rw [jM_no_eq, if_pos (by omega), if_pos (by omega)]
theorem cM_full : jM_full L g = some (-204, up g 138 2 (iw (g 138 2 + 1))) := by
  rw [jM_full_eq, if_pos (by omega), if_pos (by omega)]
theorem cM_in : jM_in L a b c g = some (if b ≤ a ∧ a ≤ c then 1 else 0, g) := by
  rw [jM_in_eq]
  repeat' split
  all_goals first
    | rfl
    | omega
theorem cM_isBlock (hV : VaV V) (hR : RfV V g) : jM_isBlock L b g = some (if 0 ≤ b ∧ b < V 0 0 then 1 else 0, g) := by
  rw [jM_isBlock_eq, hR.1.1, iw_s (by have := hV.1; omega), cM_in]
  simp only [bnd, b2b, if_true]
  congr 2
  have := hV.1
  split <;> split <;> first
    | rfl
    | omega
theorem cM_isEdge (hV : VaV V) (hR : RfV V g) : jM_isEdge L e g = some (if 0 ≤ e ∧ e < V 0 1 then 1 else 0, g) := by
  rw [jM_isEdge_eq, hR.1.2.1, iw_s (by have := hV.2.1; omega), cM_in]
  simp only [bnd, b2b, if_true]
  congr 2
  split <;> split <;> first
    | rfl
    | omega
theorem cM_isRegion (h : cno r) : jM_isRegion L r g = some (if isRg r = true then 1 else 0, g) := by
  unfold cno at h
  rw [jM_isRegion_eq]
  by_cases h0 : r ≤ 0
  · rw [if_pos h0, if_neg]
    intro q
    have := isRg_b q
    omega
  · rw [if_neg h0]
    have h1 : 0 ≤ r := by omega
    have h2 : r < 2147483648 := by omega
    simp only [cM_widthOf h1 h2, cM_byteOf h1 h2, cM_isWidth, bnd, b2z]
    unfold isW isRg
    simp only [decide_eq_true_eq]
    by_cases hw : r % 10 = 1 ∨ r % 10 = 2 ∨ r % 10 = 4
    · rw [if_neg (by simp [hw]), if_neg (by omega), tdv (by omega), sbm, iw_n (by rcases hw with e | e | e <;> rw [e] <;> omega) (by rcases hw with e | e | e <;> rw [e] <;> omega)]
      by_cases hm : r / 10 % (r % 10) = 0
      · rw [if_neg (by simp [hm]), iw_n (by omega) (by omega)]
        split <;> split <;> first
          | rfl
          | omega
      · rw [if_pos hm, if_neg (fun q => hm q.2.2.1)]
    · rw [if_pos hw, if_neg (fun q => hw q.2.1)]
/-- of an edge: how many, the parameters, what they get -/
theorem cM_manyOf (hV : VaV V) (hR : RfV V g) (h0 : 0 ≤ e) (h1 : e < V 0 1) : jM_manyOf L e g = some (V 1 (V 3 e), g) := by
  have hE := hV.2.2.2.2.2.1 e h0 h1
  have hg := hR.2.2.1 e h0 h1
  have hn := hV.2.1
  have hb := hV.1
  rw [jM_manyOf_eq, if_pos (by omega), hg.2.1, if_pos (by omega), (hR.2.1 _ hE.2.1.1 hE.2.1.2).1]
theorem cM_parameterOf (hV : VaV V) (hR : RfV V g) (h0 : 0 ≤ e) (h1 : e < V 0 1) (h2 : 0 ≤ i) (h3 : i < V 1 (V 3 e)) : jM_parameterOf L e i g = some (V (10 + V 3 e) i, g) := by
  have hE := hV.2.2.2.2.2.1 e h0 h1
  have hg := hR.2.2.1 e h0 h1
  have hn := hV.2.1
  have hb := hV.1
  have hB := hV.2.2.2.2.1 _ hE.2.1.1 hE.2.1.2
  rw [jM_parameterOf_eq, if_pos (by omega), hg.2.1, iw_n (show 0 ≤ 6 * V 3 e by omega) (by omega), iw_n (show 0 ≤ 6 * V 3 e + i by omega) (by omega), if_pos (by omega), (hR.2.1 _ hE.2.1.1 hE.2.1.2).2 i h2 h3]
theorem cM_givenOf (hV : VaV V) (hR : RfV V g) (h0 : 0 ≤ e) (h1 : e < V 0 1) (h2 : 0 ≤ i) (h3 : i < V 1 (V 3 e)) : jM_givenOf L e i g = some (V (20 + e) i, g) := by
  have hE := hV.2.2.2.2.2.1 e h0 h1
  have hg := hR.2.2.1 e h0 h1
  have hn := hV.2.1
  have hB := hV.2.2.2.2.1 _ hE.2.1.1 hE.2.1.2
  rw [jM_givenOf_eq, iw_n (show 0 ≤ 6 * e by omega) (by omega), iw_n (show 0 ≤ 6 * e + i by omega) (by omega), if_pos (by omega), hg.2.2.2 i h2 h3]
theorem par_b (hV : VaV V) (h0 : 0 ≤ b) (h1 : b < V 0 0) (h2 : 0 ≤ i) (h3 : i < V 1 b) : 1 ≤ V (10 + b) i ∧ V (10 + b) i ≤ 319 := isRg_b ((hV.2.2.2.2.1 b h0 h1).2.1 i h2 h3)
theorem okA_b {p : Int} (h : okA a p) : -100 ≤ a ∧ a ≤ 319 := by
  rcases h with h | h
  · omega
  · have := isRg_b h.1
    omega
theorem okA_r {p : Int} (h : okA a p) (h0 : 0 ≤ a) : isRg a = true ∧ a % 10 = p % 10 := by
  rcases h with h | h
  · omega
  · exact h
/-- counts of edges -/
def frC (V : AMem) (b : Int) : Int := cnB (fun e => decide (V 2 e = b)) (V 0 1).toNat
def toC (V : AMem) (b : Int) : Int := cnB (fun e => decide (V 3 e = b)) (V 0 1).toNat
theorem cM_edgesFrom (hV : VaV V) (hR : RfV V g) : jM_edgesFrom L b g = some (frC V b, g) := by
  have hn := hV.2.1
  rw [jM_edgesFrom_eq]
  refine lp (F := fun e => jM_edgesFrom_4 L b (cnB (fun e => decide (V 2 e = b)) e.toNat) e g) (n := V 0 1) ?_ ?_ 0 (Int.le_refl _) hn.1
  · intro e h0 h1 ih
    have hc := cnB_b (f := fun e => decide (V 2 e = b)) (k := e.toNat)
    rw [cnB_s h0] at ih
    rw [jM_edgesFrom_4_eq, hR.1.2.1, if_neg (by omega), if_pos (by omega), (hR.2.2.1 e h0 h1).1, iw_n (show 0 ≤ e + 1 by omega) (by omega), iw_n (show 0 ≤ cnB (fun e => decide (V 2 e = b)) e.toNat + 0 by omega) (by omega), iw_n (show 0 ≤ cnB (fun e => decide (V 2 e = b)) e.toNat + 1 by omega) (by omega)]
    by_cases q : V 2 e = b
    · rw [if_neg (by simp [q])]
      rw [if_pos (by simp [q])] at ih
      exact ih
    · rw [if_pos q]
      rw [if_neg (by simp [q])] at ih
      exact ih
  · rw [jM_edgesFrom_4_eq, hR.1.2.1, if_pos (Int.le_refl _)]
    rfl
theorem cM_edgesTo (hV : VaV V) (hR : RfV V g) : jM_edgesTo L b g = some (toC V b, g) := by
  have hn := hV.2.1
  rw [jM_edgesTo_eq]
  refine lp (F := fun e => jM_edgesTo_4 L b (cnB (fun e => decide (V 3 e = b)) e.toNat) e g) (n := V 0 1) ?_ ?_ 0 (Int.le_refl _) hn.1
  · intro e h0 h1 ih
    have hc := cnB_b (f := fun e => decide (V 3 e = b)) (k := e.toNat)
    rw [cnB_s h0] at ih
    rw [jM_edgesTo_4_eq, hR.1.2.1, if_neg (by omega), if_pos (by omega), (hR.2.2.1 e h0 h1).2.1, iw_n (show 0 ≤ e + 1 by omega) (by omega), iw_n (show 0 ≤ cnB (fun e => decide (V 3 e = b)) e.toNat + 0 by omega) (by omega), iw_n (show 0 ≤ cnB (fun e => decide (V 3 e = b)) e.toNat + 1 by omega) (by omega)]
    by_cases q : V 3 e = b
    · rw [if_neg (by simp [q])]
      rw [if_pos (by simp [q])] at ih
      exact ih
    · rw [if_pos q]
      rw [if_neg (by simp [q])] at ih
      exact ih
  · rw [jM_edgesTo_4_eq, hR.1.2.1, if_pos (Int.le_refl _)]
    rfl
def whV (V : AMem) (e : Int) : Int := if frC V (V 2 e) = 1 then 0 else if toC V (V 3 e) = 1 then 1 else 2
theorem cM_whereOf (hV : VaV V) (hR : RfV V g) (h0 : 0 ≤ e) (h1 : e < V 0 1) : jM_whereOf L e g = some (whV V e, g) := by
  have hn := hV.2.1
  have hg := hR.2.2.1 e h0 h1
  rw [jM_whereOf_eq, if_pos (by omega), hg.1, cM_edgesFrom hV hR, bnd]
  dsimp only
  rw [hg.2.1, cM_edgesTo hV hR]
  unfold whV
  by_cases q : frC V (V 2 e) = 1
  · rw [if_neg (by simp [q]), if_pos q]
  · rw [if_pos q, if_neg q, if_pos (by omega), bnd]
    by_cases q2 : toC V (V 3 e) = 1
    · rw [if_neg (by simp [q2]), if_pos q2]
    · rw [if_pos q2, if_neg q2]
end REF
