def ncB (V : AMem) (b : Int) : Bool := anB (fun e => decide (V 3 e = b) && !(clB V e)) (V 0 1).toNat
section TAI3
variable {L : Nat} {V W X g : AMem} {a b bt c d e f i j kd n p q r t w x : Int}
theorem cM_tail17 (hV : VaV V) (hR : RfV V g) : jM_tail_17 L b 1 0 g = if ncB V b = true then jM_no L g else jM_tail_76 L b 1 0 1 0 vU g := by
  have hn := hV.2.1
  unfold ncB
  refine lp (F := fun i => jM_tail_17 L b (if anB (fun e => decide (V 3 e = b) && !(clB V e)) i.toNat = true then 0 else 1) i g) (n := V 0 1) ?_ ?_ 0 (Int.le_refl _) hn.1
  · intro i h2 h3 ih
    rw [anB_s h2] at ih
    have i1 : iw (i + 1) = i + 1 := iw_n (by omega) (by omega)
    rw [jM_tail_17_eq, hR.1.2.1, if_neg (by omega), (hR.2.2.1 i h2 h3).2.1, cM_isClear hV hR h2 h3, bnd, i1]
    dsimp only
    rw [ifz, if_pos (show 0 ≤ i ∧ i < 16 by omega)]
    cases h4 : anB (fun e => decide (V 3 e = b) && !(clB V e)) i.toNat <;> rw [h4] at ih
    · rw [if_neg (by simp)]
      by_cases h5 : V 3 i = b
      · rw [if_neg (by simp [h5])]
        cases h6 : clB V i <;> simp [h5, h6] at ih ⊢ <;> exact ih
      · rw [if_pos h5]
        simp [h5] at ih
        exact ih
    · rw [if_pos (by simp)]
      simpa using ih
  · rw [jM_tail_17_eq, hR.1.2.1, if_pos (Int.le_refl _), bns]
    cases anB (fun e => decide (V 3 e = b) && !(clB V e)) (V 0 1).toNat <;> simp
end TAI3
