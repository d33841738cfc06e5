/-! what steps and costs answer, and the reference -/
def smI (f : Int → Int) : Nat → Int
  | 0 => 0
  | k + 1 => smI f k + f k
theorem smI_s {f : Int → Int} {i : Int} (h : 0 ≤ i) : smI f (i + 1).toNat = smI f i.toNat + f i := by
  have e : (i + 1).toNat = i.toNat + 1 := by omega
  have e2 : ((i.toNat : Nat) : Int) = i := by omega
  rw [e, smI, e2]
theorem smI_b {f : Int → Int} {c : Int} (h : ∀ i, 0 ≤ f i ∧ f i ≤ c) : ∀ {k : Nat}, 0 ≤ smI f k ∧ smI f k ≤ c * k
  | 0 => by simp [smI]
  | k + 1 => by
    have h1 := smI_b h (k := k)
    have h2 := h k
    rw [smI]
    have e : c * ((k + 1 : Nat) : Int) = c * k + c := by
      rw [Int.natCast_succ, Int.mul_add, Int.mul_one]
    omega
def cs1 (kd : Int) (W : AMem) (k : Int) : Int := if W 1 k = 1 then chC kd (W 2 k % 10) else mvC kd (W 2 k % 10)
def csV (kd : Int) (W : AMem) : Int := smI (cs1 kd W) (W 0 0).toNat
def coV (V : AMem) (e kd : Int) : Int := csV kd (plV V e kd)
def cd1 (w : Int) (W : AMem) (k : Int) : Bool := if w = 0 then true else if w = 4 then decide (320 ≤ W 2 k) else decide (W 1 k = w - 1)
def cdV (w : Int) (W : AMem) : Int := cnB (cd1 w W) (W 0 0).toNat
section COS
variable {L : Nat} {V W g : AMem} {b bt c d e f i j k kd n p q r t w x : Int}
theorem cs1_b : 0 ≤ cs1 kd W k ∧ cs1 kd W k ≤ 9 := by
  unfold cs1
  split
  · exact chC_b (by omega) (by omega)
  · exact mvC_b (by omega) (by omega)
theorem stp_t {s t f : Int} (h : stpO s t f) : 0 ≤ t ∧ t ≤ 324 := by
  rcases h.1 with q | q
  · have := isRg_b q
    omega
  · omega
theorem cM_cost11 (hP : RfP W n g) (hS : SO W) (h9 : W 0 0 ≤ 9) : jM_costBy_11 L e kd 0 0 vU g = some (csV kd W, g) := by
  have h00 := hS.1
  unfold csV
  refine lpx (F := fun i w => jM_costBy_11 L e kd (smI (cs1 kd W) i.toNat) i w g) (I := fun _ _ => True) (P := fun q => q = some (smI (cs1 kd W) (W 0 0).toNat, g)) (n := W 0 0) ?_ ?_ 0 vU (Int.le_refl _) h00 trivial
  · intro i w h2 h3 _ ih
    have ih := fun w => ih w trivial
    rw [smI_s h2] at ih
    have hb := smI_b (f := cs1 kd W) (c := 9) (fun i => cs1_b) (k := i.toNat)
    have hb1 := cs1_b (kd := kd) (W := W) (k := i)
    have hk := hP.2.1 i h2 h3
    have ht := stp_t (hS.2 i h2 h3)
    have hc : cs1 kd W i = if W 1 i = 1 then chC kd (W 2 i % 10) else mvC kd (W 2 i % 10) := rfl
    rw [jM_costBy_11_eq, hP.1, if_neg (by omega), if_pos (by omega), hk.2.1, cM_widthOf ht.1 (by omega), bnd]
    dsimp only
    rw [if_pos (by omega)]
    have hk1 := hk.1
    by_cases q : W 1 i = 1
    · rw [if_pos q] at hc
      rw [if_neg (by omega), cM_changeCost (by omega) (by omega), bnd]
      dsimp only
      rw [← hc, iw_n (by omega) (by omega), iw_n (by omega) (by omega)]
      exact ih _
    · rw [if_neg q] at hc
      rw [if_pos (by omega), cM_moveCost (by omega) (by omega), bnd]
      dsimp only
      rw [← hc, iw_n (by omega) (by omega), iw_n (by omega) (by omega)]
      exact ih _
  · intro w _
    rw [jM_costBy_11_eq, hP.1, if_pos (Int.le_refl _)]
theorem cM_costBy (hV : VaV V) (hR : RfV V g) (he0 : 0 ≤ e) (he1 : e < V 0 1) : ∃ g', jM_costBy L e kd g = some (coV V e kd, g') ∧ RfP (plV V e kd) (V 1 (V 3 e)) g' ∧ Sp g g' := by
  obtain ⟨g1, a1, a2, a3⟩ := cM_setSteps (L := L) (kd := kd) hV hR he0 he1
  have h9 := plV_9 (kd := kd) hV he0 he1
  refine ⟨g1, ?_, a2, a3⟩
  rw [jM_costBy_eq, a1, bnd, cM_cost11 a2 h9.1 h9.2]
  rfl
theorem coV_b (hV : VaV V) (he0 : 0 ≤ e) (he1 : e < V 0 1) : 0 ≤ coV V e kd ∧ coV V e kd ≤ 81 := by
  have h9 := plV_9 (kd := kd) hV he0 he1
  have h0 := h9.1.1
  have := smI_b (f := cs1 kd (plV V e kd)) (c := 9) (fun i => cs1_b) (k := (plV V e kd 0 0).toNat)
  unfold coV csV
  omega
theorem cM_counted (hP : RfP W n g) (hS : SO W) (h9 : W 0 0 ≤ 9) (h0 : 0 ≤ w) (h4 : w ≤ 4) : jM_counted L w g = some (cdV w W, g) := by
  have h00 := hS.1
  rw [jM_counted_eq]
  unfold cdV
  refine lpx (F := fun i x => jM_counted_4 L w (cnB (cd1 w W) i.toNat) i x g) (I := fun _ _ => True) (P := fun q => q = some (cnB (cd1 w W) (W 0 0).toNat, g)) (n := W 0 0) ?_ ?_ 0 vU (Int.le_refl _) h00 trivial
  · intro i x h2 h3 _ ih
    have ih := fun x => ih x trivial
    rw [cnB_s h2] at ih
    have hb := cnB_b (f := cd1 w W) (k := i.toNat)
    have hk := hP.2.1 i h2 h3
    have hc : cd1 w W i = if w = 0 then true else if w = 4 then decide (320 ≤ W 2 i) else decide (W 1 i = w - 1) := rfl
    rw [hc] at ih
    have hsd := (hS.2 i h2 h3).2
    have hs : W 1 i = 0 ∨ W 1 i = 1 ∨ W 1 i = 2 := by
      rcases hsd with q | q
      · exact Or.inr (Or.inr q.1)
      · rcases q.1 with q | q
        · exact Or.inl q
        · exact Or.inr (Or.inl q.1)
    rw [jM_counted_4_eq, hP.1, if_neg (by omega), iw_n (show 0 ≤ i + 1 by omega) (by omega), iw_n (show 0 ≤ cnB (cd1 w W) i.toNat + 1 by omega) (by omega), iw_n (show 0 ≤ cnB (cd1 w W) i.toNat + 0 by omega) (by omega), iw_s (show -2147483648 ≤ w - 1 ∧ w - 1 < 2147483648 by omega), hk.1, hk.2.1]
    by_cases q0 : w = 0
    · rw [if_pos q0]
      rw [if_pos q0, if_pos rfl] at ih
      exact ih _
    · rw [if_neg q0]
      rw [if_neg q0] at ih
      by_cases q4 : w = 4
      · rw [if_neg (show ¬ w ≠ 4 by omega), if_pos (by omega)]
        rw [if_pos q4] at ih
        by_cases q5 : 320 ≤ W 2 i
        · rw [if_pos q5]
          rw [if_pos (by simp [q5])] at ih
          exact ih _
        · rw [if_neg q5, if_pos (by omega)]
          rw [if_neg (by simp [q5])] at ih
          exact ih _
      · rw [if_pos q4, if_neg (by omega), if_pos (by omega)]
        rw [if_neg q4] at ih
        by_cases q6 : W 1 i = w - 1
        · rw [if_neg (by omega)]
          rw [if_pos (by simp [q6])] at ih
          exact ih _
        · rw [if_pos (by omega)]
          rw [if_neg (by simp [q6])] at ih
          exact ih _
  · intro x _
    rw [jM_counted_4_eq, hP.1, if_pos (Int.le_refl _)]
end COS
