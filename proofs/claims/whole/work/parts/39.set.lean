/-! the reference's steps, all of them -/
theorem cnB_o {f g h : Int → Bool} (h1 : ∀ i, h i = (f i || g i)) (h2 : ∀ i, (f i && g i) = false) : ∀ {k : Nat}, cnB h k = cnB f k + cnB g k
  | 0 => rfl
  | k + 1 => by
    rw [cnB, cnB, cnB, cnB_o h1 h2 (k := k), h1 k]
    have := h2 k
    cases e1 : f k <;> cases e2 : g k <;> simp [e1, e2] at this ⊢ <;> omega
theorem cnB_m {f : Int → Bool} : ∀ {j k : Nat}, j ≤ k → cnB f j ≤ cnB f k
  | j, 0, h => by rw [show j = 0 by omega]; exact Int.le_refl _
  | j, k + 1, h => by
    by_cases e : j = k + 1
    · rw [e]
      exact Int.le_refl _
    · have := cnB_m (f := f) (j := j) (k := k) (by omega)
      rw [cnB]
      split <;> omega
def dC (V : AMem) (e : Int) : Int := cnB (fun i => decide (V (20 + e) i < 0)) (V 1 (V 3 e)).toNat
def seP (V : AMem) (e bt i : Int) : Bool := decide (V (20 + e) i < 0) && decide (V (10 + V 3 e) i / 10 = bt)
def seL (V : AMem) (e bt i : Int) : Bool := decide (V (20 + e) i < 0) && decide (V (10 + V 3 e) i / 10 < bt)
def seI (V : AMem) (e bt : Int) : Nat → AMem → AMem
  | 0, W => W
  | k + 1, W => if seP V e bt k = true then pAdd (seI V e bt k W) 2 (V (10 + V 3 e) k) (V (20 + e) k) else seI V e bt k W
def seB (V : AMem) (e : Int) : Nat → AMem → AMem
  | 0, W => W
  | k + 1, W => seI V e k (V 1 (V 3 e)).toNat (seB V e k W)
def plV (V : AMem) (e kd : Int) : AMem := seB V e 32 (pLp V (V 3 e) kd 10 (opW V e))
section SET
variable {L : Nat} {V W g : AMem} {b bt c d e f i j kd n p q r t w x : Int} {k : Nat}
theorem seI_0 : seI V e bt k W 0 0 = W 0 0 + cnB (seP V e bt) k := by
  induction k with
  | zero => simp [seI, cnB]
  | succ k ih =>
    rw [seI, cnB]
    by_cases q : seP V e bt k = true
    · rw [if_pos q, if_pos q, pA_0, ih]
      omega
    · rw [if_neg q, if_neg q, ih]
      omega
theorem seB_0 (hV : VaV V) (he0 : 0 ≤ e) (he1 : e < V 0 1) : seB V e k W 0 0 = W 0 0 + cnB (seL V e k) (V 1 (V 3 e)).toNat := by
  have hB := bOK_e hV he0 he1
  induction k with
  | zero =>
    rw [seB, show cnB (seL V e (0 : Nat)) (V 1 (V 3 e)).toNat = cnB (fun _ => false) (V 1 (V 3 e)).toNat from cnB_cong (fun i i0 i1 => by
      have := isRg_b (hB.2.1 i i0 (by omega))
      unfold seL
      simp
      omega)]
    have : ∀ k : Nat, cnB (fun _ => false) k = 0 := by
      intro k
      induction k with
      | zero => rfl
      | succ k ih => rw [cnB, ih]; simp
    rw [this]
    omega
  | succ k ih =>
    rw [seB, seI_0, ih, cnB_o (f := seL V e k) (g := seP V e k) (h := seL V e ((k + 1 : Nat) : Int)) (fun i => by
      unfold seL seP
      rw [Bool.eq_iff_iff]
      simp only [Bool.and_eq_true, Bool.or_eq_true, decide_eq_true_eq]
      omega) (fun i => by
      unfold seL seP
      rw [Bool.eq_false_iff]
      simp only [ne_eq, Bool.and_eq_true, decide_eq_true_eq]
      omega)]
    omega
def SO (W : AMem) : Prop := 0 ≤ W 0 0 ∧ ∀ k, 0 ≤ k → k < W 0 0 → stpO (W 1 k) (W 2 k) (W 3 k)
theorem seI_S (hV : VaV V) (he0 : 0 ≤ e) (he1 : e < V 0 1) (hS : SO W) (hk : k ≤ V 1 (V 3 e)) : SO (seI V e bt k W) := by
  have hB := bOK_e hV he0 he1
  induction k with
  | zero => exact hS
  | succ k ih =>
    have h := ih (by omega)
    rw [seI]
    split
    · rename_i q
      unfold seP at q
      simp only [Bool.and_eq_true, decide_eq_true_eq] at q
      have hg := (edg_b hV he0 he1 (i := (k : Int)) (by omega) (by omega)).2.1
      have hr := hB.2.1 k (by omega) (by omega)
      refine ⟨by rw [pA_0]; have := h.1; omega, fun l l0 l1 => ?_⟩
      rw [pA_0] at l1
      exact pAdd_stp h.2 ⟨Or.inl hr, Or.inl ⟨rfl, hr, hg.1, q.1⟩⟩ l l0 l1
    · exact h
theorem seB_S (hV : VaV V) (he0 : 0 ≤ e) (he1 : e < V 0 1) (hS : SO W) : SO (seB V e k W) := by
  have hB := bOK_e hV he0 he1
  have hn := hB.1
  induction k with
  | zero => exact hS
  | succ k ih =>
    rw [seB]
    exact seI_S hV he0 he1 ih (by omega)
theorem PI_0 (hV : VaV V) (he0 : 0 ≤ e) (he1 : e < V 0 1) : PI V (opW V e) (V 3 e) (dC V e) := by
  have hB := bOK_e hV he0 he1
  have hn := hB.1
  have hE := (hV.2.2.2.2.2.1 e he0 he1).2.2.2
  have h00 : opW V e 0 0 = 0 := by simp [opW]
  have h4 : ∀ i, opW V e 4 i = if vMv V e i = true ∧ 0 < V (20 + e) i then 1 else 0 := fun i => by simp [opW]
  have h5 : ∀ i, opW V e 5 i = V (20 + e) i := fun i => by simp [opW]
  refine ⟨⟨by omega, fun i i0 i1 i2 => ?_, fun k k0 k1 => by omega⟩, Or.inl ?_⟩
  · rw [h4] at i2
    rw [h5]
    by_cases q : vMv V e i = true ∧ 0 < V (20 + e) i
    · have hr := okA_r (hE i i0 i1) (by omega)
      have hm := q.1
      unfold vMv at hm
      simp only [decide_eq_true_eq] at hm
      exact ⟨hm, Or.inl hr.1, hr.2⟩
    · rw [if_neg q] at i2
      exact absurd rfl i2
  · unfold PhA
    have hs := cnB_o (f := fun i => decide (opW V e 4 i ≠ 0)) (g := fun i => decide (V (20 + e) i < 0)) (h := fun i => decide (opW V e 4 i ≠ 0) || decide (V (20 + e) i < 0)) (fun i => rfl) (fun i => by
      rw [Bool.eq_false_iff]
      simp only [ne_eq, Bool.and_eq_true, decide_eq_true_eq]
      intro hq
      have := hq.1
      rw [h4, if_neg (by omega)] at this
      exact this rfl) (k := (V 1 (V 3 e)).toNat)
    have hb := cnB_b (f := fun i => decide (opW V e 4 i ≠ 0) || decide (V (20 + e) i < 0)) (k := (V 1 (V 3 e)).toNat)
    have hb1 := cnB_b (f := fun i => decide (opW V e 4 i ≠ 0)) (k := (V 1 (V 3 e)).toNat)
    have hb2 := cnB_b (f := fun i => decide (V (20 + e) i < 0)) (k := (V 1 (V 3 e)).toNat)
    unfold opC dC
    omega
theorem dC_b (hV : VaV V) (he0 : 0 ≤ e) (he1 : e < V 0 1) : 0 ≤ dC V e ∧ dC V e ≤ 6 := by
  have hn := edg_n hV he0 he1
  have := cnB_b (f := fun i => decide (V (20 + e) i < 0)) (k := (V 1 (V 3 e)).toNat)
  unfold dC
  omega
theorem seL_b (hV : VaV V) (he0 : 0 ≤ e) (he1 : e < V 0 1) : cnB (seL V e bt) (V 1 (V 3 e)).toNat ≤ dC V e := by
  have : ∀ k : Nat, cnB (seL V e bt) k ≤ cnB (fun i => decide (V (20 + e) i < 0)) k := by
    intro k
    induction k with
    | zero => exact Int.le_refl _
    | succ k ih =>
      rw [cnB, cnB]
      by_cases q : seL V e bt k = true
      · have q2 := q
        unfold seL at q2
        simp only [Bool.and_eq_true] at q2
        rw [if_pos q, if_pos q2.1]
        omega
      · rw [if_neg q]
        split <;> omega
  exact this _
/-- the loop over what is open -/
theorem cM_loop (hV : VaV V) (he0 : 0 ≤ e) (he1 : e < V 0 1) {D : Int} (hD : 0 ≤ D) : ∀ (k : Nat) (W g : AMem) (w : AVal), PI V W (V 3 e) D → 10 ≤ W 0 0 + k → RfV V g → RfP W (V 1 (V 3 e)) g → ∃ g', jM_setSteps_16 L e kd (V 1 (V 3 e)) w g = jM_setSteps_68 L e kd (V 1 (V 3 e)) 0 vU g' ∧ RfP (pLp V (V 3 e) kd k W) (V 1 (V 3 e)) g' ∧ Sp g g'
  | 0, W, g, w, hI, hk, hR, hP => by
    have hn := edg_n hV he0 he1
    have h1 := PI_m hI
    have h2 := opC_0 (W := W) (n := V 1 (V 3 e))
    refine ⟨g, ?_, hP, Sp_r⟩
    rw [jM_setSteps_16_eq, cM_openMany hP hn.1 hn.2, bnd]
    dsimp only
    rw [if_pos (by omega)]
  | k + 1, W, g, w, hI, hk, hR, hP => by
    have hn := edg_n hV he0 he1
    have hB := bOK_e hV he0 he1
    have h1 := PI_m hI
    have h2 := opC_0 (W := W) (n := V 1 (V 3 e))
    have h00 := hI.1.1
    rw [jM_setSteps_16_eq, cM_openMany hP hn.1 hn.2, bnd, pLp]
    dsimp only
    by_cases h0 : opC W (V 1 (V 3 e)) = 0
    · rw [if_pos h0, if_pos (show opC W (V 1 (V 3 e)) ≤ 0 by omega)]
      exact ⟨g, rfl, hP, Sp_r⟩
    · have hst := PI_st (kd := kd) hB hI (by omega)
      have hl := cM_leastOpen (L := L) hV hR he0 he1 hP true
      have hl2 := cM_leastOpen (L := L) hV hR he0 he1 hP false
      rw [if_pos rfl] at hl
      rw [if_neg (by simp)] at hl2
      rw [if_neg h0, if_neg (show ¬ opC W (V 1 (V 3 e)) ≤ 0 by omega), hl, bnd]
      dsimp only
      have hgo : ∃ g1 w1, (if loI V W (V 3 e) true ≠ -201 then ((jM_movesTo L e (loI V W (V 3 e) true) g).bind (fun q7 => jM_setSteps_16 L e kd (V 1 (V 3 e)) (vI (loI V W (V 3 e) true)) q7)) else ((jM_leastOpen L e 0 g).bind (fun q8 => (jM_breaks L e q8.1 kd q8.2).bind (fun q9 => jM_setSteps_16 L e kd (V 1 (V 3 e)) (vI (loI V W (V 3 e) true)) q9)))) = jM_setSteps_16 L e kd (V 1 (V 3 e)) w1 g1 ∧ RfP (pSt V W (V 3 e) kd) (V 1 (V 3 e)) g1 ∧ Sp g g1 := by
        unfold pSt
        by_cases hq : loI V W (V 3 e) true = -201
        · rw [if_neg (by simp [hq]), if_pos hq, hl2, bnd]
          obtain ⟨hs, hA⟩ := stk_f hB hI hq
          obtain ⟨i, i0, i1, i2⟩ := opC_p (W := W) (n := V 1 (V 3 e)) (by omega)
          rcases loI_b (V := V) (W := W) (u := false) hB with hf | hf
          · have := (loI_n hB hf i0 i1 i2).1
            cases this
          · obtain ⟨g1, q1, q2, q3⟩ := cM_breaks (L := L) (kd := kd) hV hR he0 he1 hP hI.1 hs (by omega) hf.1 hf.2.1 hf.2.2.1
            refine ⟨g1, vI (loI V W (V 3 e) true), ?_, q2, q3⟩
            dsimp only
            unfold loI at q1
            rw [q1, bnd]
        · rw [if_pos hq, if_neg hq]
          rcases loI_b (V := V) (W := W) (u := true) hB with hf | hf
          · exact absurd hf hq
          · obtain ⟨g1, q1, q2, q3⟩ := cM_movesTo (L := L) hV hR he0 he1 hP h00 (by omega) hf.1 hf.2.1 hf.2.2.1
            refine ⟨g1, vI (loI V W (V 3 e) true), ?_, q2, q3⟩
            rw [q1, bnd]
      obtain ⟨g1, w1, q1, q2, q3⟩ := hgo
      obtain ⟨g', p1, p2, p3⟩ := cM_loop hV he0 he1 hD k (pSt V W (V 3 e) kd) g1 w1 hst.1 (by omega) (RfV_sp hR q3) q2
      refine ⟨g', ?_, p2, Sp_t q3 p3⟩
      rw [← p1]
      exact q1
end SET
