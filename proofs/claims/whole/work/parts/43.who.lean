/-! whole and dearest: what they answer, and the reference -/
def whA (V : AMem) (w e : Int) : Int := if clB V e = true then (if w = 0 then coV V e (V 0 2) * V 4 e else if w = 1 then (if 0 < plV V e (V 0 2) 0 0 ∧ whV V e = 2 then 1 else 0) else if w = 2 then 0 else plV V e (V 0 2) 0 0) else if w = 2 then 1 else 0
def oWhole (V : AMem) (w : Int) : Int × AMem := if 0 ≤ w ∧ w ≤ 3 then (smI (whA V w) (V 0 1).toNat, V) else rB V
def dea (V : AMem) : Nat → Int × Int
  | 0 => (-201, -1)
  | k + 1 => if clB V k = true ∧ (dea V k).2 < coV V k (V 0 2) * V 4 k then ((k : Int), coV V k (V 0 2) * V 4 k) else dea V k
def oDearest (V : AMem) : Int × AMem := ((dea V (V 0 1).toNat).1, V)
section WHO
variable {L : Nat} {V W g : AMem} {b bt c d e f i j k kd n p q r t w x : Int}
theorem oWhole_V (hV : VaV V) : VaV (oWhole V w).2 := by
  unfold oWhole
  split
  · exact hV
  · exact rB_V hV
theorem oDearest_V (hV : VaV V) : VaV (oDearest V).2 := hV
theorem coL_b (hV : VaV V) (he0 : 0 ≤ e) (he1 : e < V 0 1) : 0 ≤ coV V e kd * V 4 e ∧ coV V e kd * V 4 e ≤ 81 * 99 := by
  have h1 := coV_b (kd := kd) hV he0 he1
  have h2 := (hV.2.2.2.2.2.1 e he0 he1).2.2.1
  exact ⟨Int.mul_nonneg h1.1 h2.1, Int.mul_le_mul h1.2 h2.2 h2.1 (by omega)⟩
theorem dea_s (h : 0 ≤ i) : dea V (i + 1).toNat = if clB V i = true ∧ (dea V i.toNat).2 < coV V i (V 0 2) * V 4 i then (i, coV V i (V 0 2) * V 4 i) else dea V i.toNat := by
  have e1 : (i + 1).toNat = i.toNat + 1 := by omega
  have e2 : ((i.toNat : Nat) : Int) = i := by omega
  rw [e1, dea, e2]
theorem dea_b (hV : VaV V) : ∀ {k : Nat}, (k : Int) ≤ V 0 1 → -1 ≤ (dea V k).2
  | 0, _ => by simp [dea]
  | k + 1, h => by
    have ih := dea_b hV (k := k) (by omega)
    rw [dea]
    split
    · have := coL_b (kd := V 0 2) hV (e := (k : Int)) (by omega) (by omega)
      dsimp only
      omega
    · exact ih
theorem cM_dearest (hV : VaV V) (hR : RfV V g) : RO (oDearest V) (jM_dearest L g) g := by
  have hn := hV.2.1
  rw [jM_dearest_eq]
  unfold oDearest
  refine lpx (F := fun i s => jM_dearest_8 L (dea V i.toNat).1 (dea V i.toNat).2 i s.1 s.2) (σ := AVal × AMem) (I := fun _ s => Sp g s.2) (P := fun q => RO ((dea V (V 0 1).toNat).1, V) q g) (n := V 0 1) ?_ ?_ 0 (vU, g) (Int.le_refl _) hn.1 Sp_r
  · intro i s h2 h3 hI ih
    rw [dea_s h2] at ih
    have hRs := RfV_sp hR hI
    have hb := dea_b hV (k := i.toNat) (by omega)
    have hc := coL_b (kd := V 0 2) hV h2 h3
    rw [jM_dearest_8_eq, hRs.1.2.1, if_neg (by omega), cM_isClear hV hRs h2 h3, bnd, iw_n (show 0 ≤ i + 1 by omega) (by omega)]
    dsimp only
    rw [ifz]
    by_cases q : clB V i = true
    · obtain ⟨g1, a1, a2, a3⟩ := cM_costBy (L := L) (kd := s.2 137 3) hV hRs h2 h3
      rw [if_pos q, a1, bnd, hRs.1.2.2.1]
      have hR1 := RfV_sp hRs a3
      dsimp only
      have hx : iw (coV V i (V 0 2) * g1 143 i) = coV V i (V 0 2) * V 4 i := by rw [(hR1.2.2.1 i h2 h3).2.2.1, iw_n hc.1 (by omega)]
      rw [if_pos (by omega)]
      simp only [hx]
      by_cases q2 : coV V i (V 0 2) * V 4 i ≤ (dea V i.toNat).2
      · rw [if_pos q2, if_pos q2]
        rw [if_neg (by omega)] at ih
        exact ih (_, g1) (Sp_t hI a3)
      · rw [if_neg q2, if_neg q2]
        rw [if_pos ⟨q, by omega⟩] at ih
        exact ih (_, g1) (Sp_t hI a3)
    · rw [if_neg q, if_pos hb, if_pos hb]
      rw [if_neg (fun h => q h.1)] at ih
      exact ih (_, s.2) hI
  · intro s hI
    rw [jM_dearest_8_eq, (RfV_sp hR hI).1.2.1, if_pos (Int.le_refl _)]
    exact RO_sc hR hI
end WHO
