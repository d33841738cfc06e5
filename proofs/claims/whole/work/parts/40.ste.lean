/-! the reference's settings, and its whole plan -/
section STE
variable {L : Nat} {V W g : AMem} {b bt c d e f i j kd n p q r t w x : Int}
theorem cM_set78 (hV : VaV V) (he0 : 0 ≤ e) (he1 : e < V 0 1) (hW0 : 0 ≤ W 0 0) (hW1 : W 0 0 + 6 < 24) (hR : RfV V g) (hP : RfP W (V 1 (V 3 e)) g) : ∃ g', jM_setSteps_78 L e kd (V 1 (V 3 e)) bt 0 g = jM_setSteps_68 L e kd (V 1 (V 3 e)) (iw (bt + 1)) (vI (V 1 (V 3 e))) g' ∧ RfP (seI V e bt (V 1 (V 3 e)).toNat W) (V 1 (V 3 e)) g' ∧ Sp g g' := by
  have hn := edg_n hV he0 he1
  refine lpx (F := fun i h => jM_setSteps_78 L e kd (V 1 (V 3 e)) bt i h) (I := fun i h => RfP (seI V e bt i.toNat W) (V 1 (V 3 e)) h ∧ Sp g h) (P := fun q => ∃ g', q = jM_setSteps_68 L e kd (V 1 (V 3 e)) (iw (bt + 1)) (vI (V 1 (V 3 e))) g' ∧ RfP (seI V e bt (V 1 (V 3 e)).toNat W) (V 1 (V 3 e)) g' ∧ Sp g g') (n := V 1 (V 3 e)) ?_ ?_ 0 g (Int.le_refl _) hn.1 ⟨hP, Sp_r⟩
  · intro i h h2 h3 hI ih
    have hRh := RfV_sp hR hI.2
    have hp := (edg_b hV he0 he1 h2 h3).1
    have hc := cnB_b (f := seP V e bt) (k := i.toNat)
    have es : seI V e bt (i + 1).toNat W = if seP V e bt i = true then pAdd (seI V e bt i.toNat W) 2 (V (10 + V 3 e) i) (V (20 + e) i) else seI V e bt i.toNat W := by
      have e1 : (i + 1).toNat = i.toNat + 1 := by omega
      have e2 : ((i.toNat : Nat) : Int) = i := by omega
      rw [e1, seI, e2]
    rw [es] at ih
    rw [jM_setSteps_78_eq, if_neg (by omega), cM_givenOf hV hRh he0 he1 h2 h3, bnd, iw_n (show 0 ≤ i + 1 by omega) (by omega)]
    dsimp only
    by_cases q1 : V (20 + e) i < 0
    · rw [if_neg (by omega), cM_parameterOf hV hRh he0 he1 h2 h3, bnd]
      dsimp only
      rw [cM_byteOf (by omega) (by omega), bnd]
      dsimp only
      by_cases q2 : V (10 + V 3 e) i / 10 = bt
      · rw [if_neg (by simp [q2]), cM_parameterOf hV hRh he0 he1 h2 h3, bnd, cM_givenOf hV hRh he0 he1 h2 h3, bnd]
        dsimp only
        obtain ⟨g1, a1, a2, a3⟩ := cM_comes (L := L) (s := 2) (t := V (10 + V 3 e) i) (f := V (20 + e) i) hI.1 (by rw [seI_0]; omega) (by rw [seI_0]; omega)
        rw [a1, bnd]
        rw [if_pos (by unfold seP; simp [q1, q2])] at ih
        exact ih g1 ⟨a2, Sp_t hI.2 a3⟩
      · rw [if_pos q2]
        rw [if_neg (by unfold seP; simp [q2])] at ih
        exact ih h hI
    · rw [if_pos (by omega)]
      rw [if_neg (by unfold seP; simp [q1])] at ih
      exact ih h hI
  · intro h hI
    refine ⟨h, ?_, hI.1, hI.2⟩
    rw [jM_setSteps_78_eq, if_pos (Int.le_refl _)]
theorem cM_set68 (hV : VaV V) (he0 : 0 ≤ e) (he1 : e < V 0 1) (hW0 : 0 ≤ W 0 0) (hW1 : W 0 0 + 12 < 24) (hR : RfV V g) (hP : RfP W (V 1 (V 3 e)) g) : ∃ g', jM_setSteps_68 L e kd (V 1 (V 3 e)) 0 vU g = some g' ∧ RfP (seB V e 32 W) (V 1 (V 3 e)) g' ∧ Sp g g' := by
  have hn := edg_n hV he0 he1
  have hd := dC_b hV he0 he1
  refine lpx (F := fun bt s => jM_setSteps_68 L e kd (V 1 (V 3 e)) bt s.1 s.2) (σ := AVal × AMem) (I := fun bt s => RfP (seB V e bt.toNat W) (V 1 (V 3 e)) s.2 ∧ Sp g s.2) (P := fun q => ∃ g', q = some g' ∧ RfP (seB V e 32 W) (V 1 (V 3 e)) g' ∧ Sp g g') (n := 32) ?_ ?_ 0 (vU, g) (Int.le_refl _) (by omega) ⟨hP, Sp_r⟩
  · intro bt s h2 h3 hI ih
    have hc := seL_b (bt := ((bt.toNat : Nat) : Int)) hV he0 he1
    have hc0 := cnB_b (f := seL V e ((bt.toNat : Nat) : Int)) (k := (V 1 (V 3 e)).toNat)
    have h00 : seB V e bt.toNat W 0 0 = W 0 0 + cnB (seL V e ((bt.toNat : Nat) : Int)) (V 1 (V 3 e)).toNat := seB_0 hV he0 he1
    obtain ⟨g1, a1, a2, a3⟩ := cM_set78 (L := L) (kd := kd) (bt := bt) hV he0 he1 (W := seB V e bt.toNat W) (by rw [h00]; omega) (by rw [h00]; omega) (RfV_sp hR hI.2) hI.1
    rw [jM_setSteps_68_eq, if_neg (by omega), a1, iw_n (by omega) (by omega)]
    refine ih (vI (V 1 (V 3 e)), g1) ⟨?_, Sp_t hI.2 a3⟩
    have e1 : (bt + 1).toNat = bt.toNat + 1 := by omega
    have e2 : ((bt.toNat : Nat) : Int) = bt := by omega
    rw [e1, seB, e2]
    exact a2
  · intro s hI
    refine ⟨s.2, ?_, hI.1, hI.2⟩
    rw [jM_setSteps_68_eq, if_pos (by omega)]
theorem cM_setSteps (hV : VaV V) (hR : RfV V g) (he0 : 0 ≤ e) (he1 : e < V 0 1) : ∃ g', jM_setSteps L e kd g = some g' ∧ RfP (plV V e kd) (V 1 (V 3 e)) g' ∧ Sp g g' := by
  have hB := bOK_e hV he0 he1
  have hd := dC_b hV he0 he1
  have hS0 : Sp g (up g 137 10 0) := Sp_u Sp_r (by unfold spR; omega)
  obtain ⟨g1, a1, a2, a3, a4⟩ := cM_setOpen (L := L) hV (RfV_sp hR hS0) he0 he1
  have h00 : opW V e 0 0 = 0 := by simp [opW]
  have hP1 : RfP (opW V e) (V 1 (V 3 e)) g1 := ⟨by rw [a3, up_s, h00], fun k k0 k1 => by omega, a4⟩
  obtain ⟨g2, b1, b2, b3⟩ := cM_loop (L := L) (kd := kd) hV he0 he1 hd.1 10 (opW V e) g1 vU (PI_0 hV he0 he1) (by omega) (RfV_sp hR (Sp_t hS0 a2)) hP1
  have hl := pLp_l (kd := kd) hB hd.1 10 (opW V e) (PI_0 hV he0 he1) (by omega)
  have hz := PI_z hl.1 hl.2
  obtain ⟨g3, c1, c2, c3⟩ := cM_set68 (L := L) (kd := kd) hV he0 he1 hl.1.1.1 (by omega) (RfV_sp hR (Sp_t (Sp_t hS0 a2) b3)) b2
  refine ⟨g3, ?_, c2, Sp_t (Sp_t (Sp_t hS0 a2) b3) c3⟩
  rw [jM_setSteps_eq, cM_manyOf hV hR he0 he1, bnd]
  dsimp only
  rw [a1, bnd, b1, c1]
/-- no plan is longer than nine -/
theorem plV_9 (hV : VaV V) (he0 : 0 ≤ e) (he1 : e < V 0 1) : SO (plV V e kd) ∧ plV V e kd 0 0 ≤ 9 := by
  have hB := bOK_e hV he0 he1
  have hd := dC_b hV he0 he1
  have h10 : 10 ≤ opW V e 0 0 + (10 : Nat) := by simp [opW]
  have hl := pLp_l (kd := kd) hB hd.1 10 (opW V e) (PI_0 hV he0 he1) h10
  have hz := PI_z hl.1 hl.2
  have hc := seL_b (bt := 32) hV he0 he1
  unfold plV
  refine ⟨seB_S hV he0 he1 ⟨hl.1.1.1, hl.1.1.2.2⟩, ?_⟩
  have h := seB_0 (k := 32) (W := pLp V (V 3 e) kd 10 (opW V e)) hV he0 he1
  rw [h]
  have : cnB (seL V e ((32 : Nat) : Int)) (V 1 (V 3 e)).toNat ≤ dC V e := hc
  omega
end STE
