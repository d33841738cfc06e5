/-! rings: what they answer, and the reference -/
def prT (V : AMem) (e i : Int) : Int := if 0 < rgZ V e i then 60 / rgZ V e i else 0
def mxR (V : AMem) (e : Int) : Nat → Int
  | 0 => 0
  | k + 1 => if rgZ V e k ≤ mxR V e k then mxR V e k else rgZ V e k
def nnF (V : AMem) (e i : Int) : Bool := opB V e i && decide (rgZ V e i = 0)
def rnA (V : AMem) (e w : Int) : Int := if w = 0 then smI (prT V e) (V 1 (V 3 e)).toNat / 60 else if w = 1 then mxR V e (V 1 (V 3 e)).toNat else cnB (nnF V e) (V 1 (V 3 e)).toNat
def oRings (V : AMem) (e w : Int) : Int × AMem := if 0 ≤ e ∧ e < V 0 1 then (if 0 ≤ w ∧ w ≤ 2 then (if clB V e = true then (rnA V e w, V) else rN V) else rB V) else rB V
section RI2
variable {L : Nat} {V W X g h : AMem} {a b bt c d e f i j kd n p q r t w x : Int}
theorem oRings_V (hV : VaV V) : VaV (oRings V e w).2 := by
  unfold oRings
  repeat' split
  all_goals first
    | exact hV
    | exact rB_V hV
    | exact rN_V hV
theorem rgF_b : ∀ {k : Nat} {i n : Int}, 1 ≤ n → rgF V e p k i n = 0 ∨ (n ≤ rgF V e p k i n ∧ rgF V e p k i n < n + k)
  | 0, i, n, _ => Or.inl rfl
  | k + 1, i, n, h => by
    rw [rgF]
    split
    · exact Or.inl rfl
    · split
      · exact Or.inr ⟨by omega, by omega⟩
      · rcases rgF_b (k := k) (i := sxI V e i) (n := n + 1) (by omega) with q | q
        · exact Or.inl q
        · exact Or.inr ⟨by omega, by omega⟩
theorem rgZ_b (hV : VaV V) (he0 : 0 ≤ e) (he1 : e < V 0 1) : 0 ≤ rgZ V e i ∧ rgZ V e i ≤ 6 := by
  have hn := edg_n hV he0 he1
  unfold rgZ
  split
  · rcases rgF_b (V := V) (e := e) (p := i) (k := (V 1 (V 3 e)).toNat) (i := i) (n := 1) (by omega) with q | q
    · omega
    · omega
  · omega
theorem prT_b (hV : VaV V) (he0 : 0 ≤ e) (he1 : e < V 0 1) : 0 ≤ prT V e i ∧ prT V e i ≤ 60 := by
  have hb := rgZ_b (i := i) hV he0 he1
  unfold prT
  split
  · generalize rgZ V e i = r at *
    have h : r = 1 ∨ r = 2 ∨ r = 3 ∨ r = 4 ∨ r = 5 ∨ r = 6 := by omega
    rcases h with h | h | h | h | h | h <;> subst h <;> omega
  · omega
theorem mxR_b (hV : VaV V) (he0 : 0 ≤ e) (he1 : e < V 0 1) : ∀ {k : Nat}, 0 ≤ mxR V e k ∧ mxR V e k ≤ 6
  | 0 => by simp [mxR]
  | k + 1 => by
    have ih := mxR_b hV he0 he1 (k := k)
    have hb := rgZ_b (i := (k : Int)) hV he0 he1
    rw [mxR]
    split <;> omega
theorem mxR_s (h0 : 0 ≤ i) : mxR V e (i + 1).toNat = if rgZ V e i ≤ mxR V e i.toNat then mxR V e i.toNat else rgZ V e i := by
  have e1 : (i + 1).toNat = i.toNat + 1 := by omega
  have e2 : ((i.toNat : Nat) : Int) = i := by omega
  rw [e1, mxR, e2]
theorem cM_rings51 (hV : VaV V) (hR : RfV V g) (he0 : 0 ≤ e) (he1 : e < V 0 1) (hQ : RfQ V e g) (hw0 : 0 ≤ w) (hw1 : w ≤ 2) : jM_rings_51 L e w 0 0 0 0 vU g = some (rnA V e w, g) := by
  have hn := edg_n hV he0 he1
  refine lpx (F := fun i x => jM_rings_51 L e w (mxR V e i.toNat) (cnB (nnF V e) i.toNat) (smI (prT V e) i.toNat) i x g) (I := fun _ _ => True) (P := fun q => q = some (rnA V e w, g)) (n := V 1 (V 3 e)) ?_ ?_ 0 vU (Int.le_refl _) hn.1 trivial
  · intro i x h2 h3 _ ih
    have ih := fun x => ih x trivial
    rw [mxR_s h2, cnB_s h2, smI_s h2] at ih
    have hq := (hQ i h2 h3).1
    rw [opW_4] at hq
    have b1 := mxR_b hV he0 he1 (k := i.toNat)
    have b2 := cnB_b (f := nnF V e) (k := i.toNat)
    have b3 := smI_b (f := prT V e) (c := 60) (fun i => prT_b hV he0 he1) (k := i.toNat)
    have b4 := rgZ_b (i := i) hV he0 he1
    have b5 := prT_b (i := i) hV he0 he1
    have h6 : 0 ≤ i ∧ i < 6 := by omega
    have i1 : iw (i + 1) = i + 1 := iw_n (by omega) (by omega)
    have i2 : iw (cnB (nnF V e) i.toNat + 0) = cnB (nnF V e) i.toNat + 0 := iw_n (by omega) (by omega)
    have i3 : iw (cnB (nnF V e) i.toNat + 1) = cnB (nnF V e) i.toNat + 1 := iw_n (by omega) (by omega)
    have i4 : iw (smI (prT V e) i.toNat + 0) = smI (prT V e) i.toNat + 0 := iw_n (by omega) (by omega)
    have hnn : nnF V e i = (opB V e i && decide (rgZ V e i = 0)) := rfl
    have hpr : prT V e i = if 0 < rgZ V e i then 60 / rgZ V e i else 0 := rfl
    rw [jM_rings_51_eq, cM_manyOf hV hR he0 he1, bnd, i1, i2, i3, i4]
    dsimp only
    rw [if_neg (show ¬ V 1 (V 3 e) ≤ i by omega), if_pos h6]
    by_cases q : opB V e i = true
    · rw [if_pos q] at hq
      have hz : ¬ g 148 i = 0 := by omega
      rw [if_neg hz, cM_ringOf hV hR he0 he1 hQ h2 h3 q, bnd]
      dsimp only
      rw [if_pos h6, if_neg hz]
      by_cases z : rgZ V e i = 0
      · rw [if_neg (show ¬ rgZ V e i ≠ 0 by omega), if_pos (by omega), if_pos (by omega)]
        rw [hpr, hnn, if_pos (by omega), if_pos (by simp [q, z]), if_neg (by omega)] at ih
        exact ih _
      · have i5 : iw ((60 : Int).tdiv (rgZ V e i)) = prT V e i := by
          rw [hpr] at b5
          rw [if_pos (by omega)] at b5
          rw [tdv (by omega), iw_n b5.1 (by omega), hpr, if_pos (by omega)]
        have i6 : iw (smI (prT V e) i.toNat + prT V e i) = smI (prT V e) i.toNat + prT V e i := iw_n (by omega) (by omega)
        rw [if_pos z, i5, i6]
        rw [hnn, if_neg (show ¬ (opB V e i && decide (rgZ V e i = 0)) = true by simp [z])] at ih
        by_cases z2 : rgZ V e i ≤ mxR V e i.toNat
        · rw [if_pos z2, if_neg (by omega), if_neg z]
          rw [if_pos z2] at ih
          exact ih _
        · rw [if_neg z2, if_neg (by omega), if_neg z]
          rw [if_neg z2] at ih
          exact ih _
    · have z : rgZ V e i = 0 := by
        unfold rgZ
        rw [if_neg q]
      rw [if_neg q] at hq
      rw [if_pos hq, if_pos h6, if_pos hq, if_pos b1.1]
      rw [hpr, hnn, if_pos (by omega), if_neg (by simp [q]), if_neg (by omega)] at ih
      exact ih _
  · intro x _
    have b3 := smI_b (f := prT V e) (c := 60) (fun i => prT_b hV he0 he1) (k := (V 1 (V 3 e)).toNat)
    rw [jM_rings_51_eq, cM_manyOf hV hR he0 he1, bnd]
    dsimp only
    rw [if_pos (Int.le_refl _), tdv b3.1, iw_n (by omega) (by omega)]
    unfold rnA
    by_cases w0 : w = 0
    · rw [if_neg (by omega), if_pos w0]
    · rw [if_pos w0, if_neg w0]
      by_cases w1 : w = 1
      · rw [if_neg (by omega), if_pos w1]
      · rw [if_pos w1, if_neg w1]
theorem cM_rings (hV : VaV V) (hR : RfV V g) : RO (oRings V e w) (jM_rings L e w g) g := by
  rw [jM_rings_eq, cM_isEdge hV hR, bnd]
  dsimp only
  rw [ifz, bns, cM_in, bnd]
  dsimp only
  rw [ifn, bns]
  unfold oRings
  by_cases he : 0 ≤ e ∧ e < V 0 1
  · rw [if_pos he, if_pos he]
    by_cases hw : 0 ≤ w ∧ w ≤ 2
    · rw [if_pos hw, if_pos hw, cM_isClear hV hR he.1 he.2, bnd]
      dsimp only
      rw [ifn, bns]
      by_cases hc : clB V e = true
      · obtain ⟨g1, a1, a2, a3, a4⟩ := cM_setOpen (L := L) hV hR he.1 he.2
        rw [if_pos hc, if_pos hc, a1, bnd, cM_rings51 hV (RfV_sp hR a2) he.1 he.2 a4 hw.1 hw.2]
        exact RO_sc hR a2
      · rw [if_neg hc, if_neg hc]
        exact RO_N hR
    · rw [if_neg hw, if_neg hw]
      exact RO_B hR
  · rw [if_neg he, if_neg he]
    exact RO_B hR
end RI2
