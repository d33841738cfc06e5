/-! the class's plan: settings, the loop, all of it -/
def stF (V : AMem) (e r i : Int) : Bool := decide (V (20 + e) i < 0) && decide (r < V (10 + V 3 e) i)
def lsI (V : AMem) (e r : Int) : Int := loK (-1) (stF V e r) (fun i => V (10 + V 3 e) i) (V 1 (V 3 e)).toNat
def drF (V : AMem) (e bt i : Int) : Bool := decide (V (20 + e) i < 0) && decide (bt ≤ V (10 + V 3 e) i / 10)
theorem loK_m {d : Int} {may : Int → Bool} {key : Int → Int} (hd : d < 0) {i : Int} : ∀ {k : Nat}, 0 ≤ i → i < k → may i = true → loK d may key k ≠ d ∧ key (loK d may key k) ≤ key i
  | 0, h0, h1, _ => by omega
  | k + 1, h0, h1, h2 => by
    rw [loK]
    by_cases e : i = k
    · rw [e] at h2 ⊢
      by_cases c : loK d may key k = d ∨ key k < key (loK d may key k)
      · rw [if_pos ⟨h2, c⟩]
        exact ⟨by omega, Int.le_refl _⟩
      · rw [if_neg (fun h => c h.2)]
        exact ⟨fun h => c (Or.inl h), by have : ¬ key k < key (loK d may key k) := fun h => c (Or.inr h); omega⟩
    · have ih := loK_m hd (may := may) (key := key) (k := k) h0 (by omega) h2
      by_cases c : may k = true ∧ (loK d may key k = d ∨ key k < key (loK d may key k))
      · rw [if_pos c]
        have := c.2.resolve_left ih.1
        exact ⟨by omega, by omega⟩
      · rw [if_neg c]
        exact ih
section PLS
variable {L : Nat} {V W g h : AMem} {a b c d e f i j kd l m n p q r s t w x : Int}
theorem seI_n {bt : Int} : ∀ {k : Nat}, (∀ j : Int, 0 ≤ j → j < k → seP V e bt j = false) → seI V e bt k W = W
  | 0, _ => rfl
  | k + 1, h => by
    rw [seI, if_neg (by rw [h k (by omega) (by omega)]; simp)]
    exact seI_n (fun j j0 j1 => h j j0 (by omega))
theorem seI_1 {bt i : Int} (h0 : 0 ≤ i) : ∀ {k : Nat}, i < k → seP V e bt i = true → (∀ j : Int, 0 ≤ j → j < k → j ≠ i → seP V e bt j = false) → seI V e bt k W = pAdd W 2 (V (10 + V 3 e) i) (V (20 + e) i)
  | 0, h1, _, _ => by omega
  | k + 1, h1, h2, h3 => by
    rw [seI]
    by_cases c : i = k
    · subst c
      rw [if_pos h2, seI_n (fun j j0 j1 => h3 j j0 (by omega) (by omega))]
    · rw [if_neg (by rw [h3 k (by omega) (by omega) (by omega)]; simp)]
      exact seI_1 h0 (by omega) h2 (fun j j0 j1 j2 => h3 j j0 (by omega) j2)
theorem seB_z {bt : Nat} : ∀ {d : Nat}, (∀ j : Int, 0 ≤ j → j < V 1 (V 3 e) → V (20 + e) j < 0 → V (10 + V 3 e) j / 10 < bt ∨ (bt : Int) + d ≤ V (10 + V 3 e) j / 10) → seB V e (bt + d) W = seB V e bt W
  | 0, _ => rfl
  | d + 1, h => by
    rw [show bt + (d + 1) = (bt + d) + 1 by omega, seB, seI_n (fun j j0 j1 => by
      unfold seP
      by_cases c : V (20 + e) j < 0
      · have := h j j0 (by omega) c
        rw [decide_eq_false (show ¬ V (10 + V 3 e) j / 10 = ((bt + d : Nat) : Int) by omega)]
        simp
      · rw [decide_eq_false c]
        rfl)]
    exact seB_z (fun j j0 j1 j2 => by have := h j j0 j1 j2; omega)
theorem cP_leastSet (hV : VaV V) (he0 : 0 ≤ e) (he1 : e < V 0 1) (hq : q = 118 ∨ q = 125) (hP : PlW L V e kd W q g) (hH : Ho L V e g) : jPl_leastSetBehind L q r g = some (lsI V e r, g) := by
  have hn := edg_n hV he0 he1
  rw [jPl_leastSetBehind_eq L q r g (kP' hq)]
  unfold lsI
  refine lpx (F := fun i w => jPl_leastSetBehind_5 L q r (loK (-1) (stF V e r) (fun i => V (10 + V 3 e) i) i.toNat) i w g) (I := fun _ _ => True) (P := fun o => o = some (loK (-1) (stF V e r) (fun i => V (10 + V 3 e) i) (V 1 (V 3 e)).toNat, g)) (n := V 1 (V 3 e)) ?_ ?_ 0 vU (Int.le_refl _) hn.1 trivial
  · intro i w h2 h3 _ ih
    have ih := fun w => ih w trivial
    rw [loK_s h2] at ih
    have hl := loK_b (d := -1) (may := stF V e r) (key := fun i => V (10 + V 3 e) i) (k := i.toNat)
    generalize loK (-1) (stF V e r) (fun i => V (10 + V 3 e) i) i.toNat = lo at ih hl ⊢
    have hm : stF V e r i = (decide (V (20 + e) i < 0) && decide (r < V (10 + V 3 e) i)) := rfl
    rw [hm] at ih
    have ca : 0 ≤ i ∧ i < aln (SH L) (g q 5) := by rw [hP.2.1.2.1]; omega
    have hpi := hP.2.1.2.2.2 i h2 h3
    rw [jPl_leastSetBehind_5_eq L q r lo i w g (kP' hq), hP.1.2.2.1, if_neg (by omega), cH_isSet hV he0 he1 hH h2 h3, bnd, iw_n (by omega) (by omega)]
    dsimp only
    rw [ifz]
    by_cases c1 : V (20 + e) i < 0
    · rw [if_pos c1, if_pos hP.2.1.1, if_pos ca]
      by_cases c2 : r < V (10 + V 3 e) i
      · rw [if_neg (show ¬ g (g q 5) i ≤ r by omega)]
        by_cases hlo : lo = -1
        · rw [if_pos (show lo < 0 by omega)]
          rw [if_pos ⟨by simp [c1, c2], Or.inl hlo⟩] at ih
          exact ih _
        · have hl2 := hl.resolve_left hlo
          have hpl := hP.2.1.2.2.2 lo hl2.1 (by omega)
          rw [if_neg (show ¬ lo < 0 by omega), if_pos hP.2.1.1, if_pos ca, if_pos hP.2.1.1, if_pos (by rw [hP.2.1.2.1]; omega)]
          by_cases hc : V (10 + V 3 e) i < V (10 + V 3 e) lo
          · rw [if_neg (show ¬ g (g q 5) lo ≤ g (g q 5) i by omega)]
            rw [if_pos ⟨by simp [c1, c2], Or.inr hc⟩] at ih
            exact ih _
          · rw [if_pos (show g (g q 5) lo ≤ g (g q 5) i by omega)]
            rw [if_neg (fun h => by rcases h.2 with h | h; exact hlo h; exact hc h)] at ih
            exact ih _
      · rw [if_pos (show g (g q 5) i ≤ r by omega)]
        rw [if_neg (by simp [c2])] at ih
        exact ih _
    · rw [if_neg c1]
      rw [if_neg (by simp [c1])] at ih
      exact ih _
  · intro w _
    rw [jPl_leastSetBehind_5_eq L q r _ _ w g (kP' hq), hP.1.2.2.1, if_pos (Int.le_refl _)]
theorem cP_set (hV : VaV V) (he0 : 0 ≤ e) (he1 : e < V 0 1) (hq : q = 118 ∨ q = 125) (hS0 : 0 ≤ W 0 0) (hS9 : W 0 0 + dC V e ≤ 9) : ∀ (k : Nat) (r l : Int) (bt : Nat) (g : AMem) (y : AVal), (∀ i, 0 ≤ i → i < V 1 (V 3 e) → (r < V (10 + V 3 e) i ↔ bt ≤ V (10 + V 3 e) i / 10)) → bt ≤ 32 → PlW L V e kd (seB V e bt W) q g → Ho L V e g → cnB (drF V e bt) (V 1 (V 3 e)).toNat ≤ k → 0 ≤ l → l + k = V 1 (V 3 e) → ∃ g', jPl_addSettings_4 L q r l y g = some g' ∧ PlW L V e kd (seB V e 32 W) q g' ∧ Pf q g g'
  | 0, r, l, bt, g, y, hr, hbt, hP, hH, hd, hl, hk => by
    have hn := edg_n hV he0 he1
    have hz := cnB_z (f := drF V e bt) (k := (V 1 (V 3 e)).toNat) (by have := cnB_b (f := drF V e bt) (k := (V 1 (V 3 e)).toNat); omega)
    have hs : seB V e 32 W = seB V e bt W := by
      have := seB_z (V := V) (e := e) (W := W) (bt := bt) (d := 32 - bt) (fun j j0 j1 j2 => by
        have := hz j j0 (by omega)
        unfold drF at this
        rw [decide_eq_true j2] at this
        simp at this
        omega)
      rw [show bt + (32 - bt) = 32 by omega] at this
      exact this
    refine ⟨g, ?_, by rw [hs]; exact hP, Pf_r⟩
    rw [jPl_addSettings_4_eq L q r l y g (kP' hq), hP.1.2.2.1, if_pos (by omega)]
  | k + 1, r, l, bt, g, y, hr, hbt, hP, hH, hd, hl, hk => by
    have hn := edg_n hV he0 he1
    have hB := bOK_e hV he0 he1
    rw [jPl_addSettings_4_eq L q r l y g (kP' hq), hP.1.2.2.1, if_neg (by omega), cP_leastSet hV he0 he1 hq hP hH, bnd, iw_n (by omega) (by omega)]
    dsimp only
    have hlo := loK_b (d := -1) (may := stF V e r) (key := fun i => V (10 + V 3 e) i) (k := (V 1 (V 3 e)).toNat)
    have hlm := fun i => loK_m (d := -1) (may := stF V e r) (key := fun i => V (10 + V 3 e) i) (by omega) (i := i) (k := (V 1 (V 3 e)).toNat)
    change lsI V e r = -1 ∨ (0 ≤ lsI V e r ∧ lsI V e r < _ ∧ stF V e r (lsI V e r) = true) at hlo
    change ∀ i : Int, 0 ≤ i → i < _ → stF V e r i = true → lsI V e r ≠ -1 ∧ V (10 + V 3 e) (lsI V e r) ≤ V (10 + V 3 e) i at hlm
    generalize lsI V e r = i at hlo hlm ⊢
    by_cases hi : i = -1
    · rw [if_pos (by omega)]
      have hnone : ∀ j : Int, 0 ≤ j → j < V 1 (V 3 e) → drF V e bt j = false := fun j j0 j1 => by
        cases hj : drF V e bt j with
        | false => rfl
        | true =>
          unfold drF at hj
          simp only [Bool.and_eq_true, decide_eq_true_eq] at hj
          exact absurd hi (hlm j j0 (by omega) (by unfold stF; simp [hj.1, (hr j j0 j1).mpr hj.2])).1
      have hz : cnB (drF V e bt) (V 1 (V 3 e)).toNat ≤ k := by
        by_cases hp : 0 < cnB (drF V e bt) (V 1 (V 3 e)).toNat
        · obtain ⟨j, j0, j1, j2⟩ := cnB_p hp
          rw [hnone j j0 (by omega)] at j2
          cases j2
        · omega
      exact cP_set hV he0 he1 hq hS0 hS9 k r (l + 1) bt g _ hr hbt hP hH hz (by omega) (by omega)
    · have hlo2 := hlo.resolve_left hi
      have i0 := hlo2.1
      have i1 : i < V 1 (V 3 e) := by have := hlo2.2.1; omega
      have hst := hlo2.2.2
      unfold stF at hst
      simp only [Bool.and_eq_true, decide_eq_true_eq] at hst
      have hbi := (hr i i0 i1).mp hst.2
      have hpr := isRg_b (hB.2.1 i i0 i1)
      have hp32 : V (10 + V 3 e) i / 10 ≤ 31 := by omega
      -- what lies between
      have hmid : ∀ j : Int, 0 ≤ j → j < V 1 (V 3 e) → V (20 + e) j < 0 → V (10 + V 3 e) j / 10 < bt ∨ V (10 + V 3 e) i / 10 ≤ V (10 + V 3 e) j / 10 := fun j j0 j1 j2 => by
        by_cases c : (bt : Int) ≤ V (10 + V 3 e) j / 10
        · have h3 := (hlm j j0 (by omega) (by unfold stF; simp [j2, (hr j j0 j1).mpr c])).2
          right
          by_cases c2 : V (10 + V 3 e) j / 10 < V (10 + V 3 e) i / 10
          · have := (bOK_o hB j0 j1 i0 i1).mpr c2
            omega
          · omega
        · left
          omega
      have hs1 : seB V e (V (10 + V 3 e) i / 10).toNat W = seB V e bt W := by
        have := seB_z (V := V) (e := e) (W := W) (bt := bt) (d := (V (10 + V 3 e) i / 10).toNat - bt) (fun j j0 j1 j2 => by have := hmid j j0 j1 j2; omega)
        rw [show bt + ((V (10 + V 3 e) i / 10).toNat - bt) = (V (10 + V 3 e) i / 10).toNat by omega] at this
        exact this
      have hs2 : seB V e ((V (10 + V 3 e) i / 10).toNat + 1) W = pAdd (seB V e bt W) 2 (V (10 + V 3 e) i) (V (20 + e) i) := by
        rw [seB, hs1]
        refine seI_1 i0 (by omega) ?_ (fun j j0 j1 j2 => ?_)
        · unfold seP
          rw [decide_eq_true hst.1, decide_eq_true (by omega)]
          rfl
        · unfold seP
          rw [Bool.and_eq_false_iff]
          right
          rw [decide_eq_false_iff_not]
          intro h
          have n1 : ¬ V (10 + V 3 e) i < V (10 + V 3 e) j := fun c => by have := (bOK_o hB i0 i1 j0 (by omega)).mp c; omega
          have n2 : ¬ V (10 + V 3 e) j < V (10 + V 3 e) i := fun c => by have := (bOK_o hB j0 (by omega) i0 i1).mp c; omega
          exact j2 (bOK_d hB j0 (by omega) i0 i1 (by omega))
      have hcl := cnB_lt (f := seL V e bt) (g := fun i => decide (V (20 + e) i < 0)) (fun j hj => by
        unfold seL at hj
        simp only [Bool.and_eq_true] at hj
        exact hj.1) (i := i) (k := (V 1 (V 3 e)).toNat) i0 (by omega) (by
          unfold seL
          rw [decide_eq_false (show ¬ V (10 + V 3 e) i / 10 < bt by omega)]
          simp) (by simp [hst.1])
      have hcc : cnB (seL V e bt) (V 1 (V 3 e)).toNat + 1 ≤ dC V e := hcl
      have hsb := cnB_b (f := seL V e bt) (k := (V 1 (V 3 e)).toNat)
      have h00 := seB_0 (k := bt) (W := W) hV he0 he1
      obtain ⟨g1, a1, a2, a3⟩ := cP_add (s := 2) (t := V (10 + V 3 e) i) (f := V (20 + e) i) hq hP (by rw [h00]; omega) (by rw [h00]; omega)
      rw [← hs2] at a2
      have hdr := cnB_lt (f := drF V e ((V (10 + V 3 e) i / 10).toNat + 1 : Nat)) (g := drF V e bt) (fun j hj => by
        unfold drF at hj ⊢
        simp only [Bool.and_eq_true, decide_eq_true_eq] at hj ⊢
        exact ⟨hj.1, by omega⟩) (i := i) (k := (V 1 (V 3 e)).toNat) i0 (by omega) (by
          unfold drF
          rw [decide_eq_false (show ¬ (((V (10 + V 3 e) i / 10).toNat + 1 : Nat) : Int) ≤ V (10 + V 3 e) i / 10 by omega)]
          simp) (by unfold drF; rw [decide_eq_true hst.1, decide_eq_true hbi]; rfl)
      obtain ⟨g2, b1, b2, b3⟩ := cP_set hV he0 he1 hq hS0 hS9 k (V (10 + V 3 e) i) (l + 1) ((V (10 + V 3 e) i / 10).toNat + 1) g1 (vI i) (fun j j0 j1 => by
        rw [bOK_o hB i0 i1 j0 j1]
        omega) (by omega) a2 (Ho_p hq hH a3) (by omega) (by omega) (by omega)
      refine ⟨g2, ?_, b2, Pf_t a3 b3⟩
      have c6 : 0 ≤ i ∧ i < 6 := by omega
      rw [if_neg (by omega), if_pos hP.2.1.1, if_pos (by rw [hP.2.1.2.1]; exact c6), if_pos hH.2.1.1, if_pos (by rw [hH.2.1.2.1]; exact c6), hP.2.1.2.2.2 i i0 i1, (hH.2.2.2 i i0 i1).2, a1, bnd]
      exact b1
theorem cP_loop (hV : VaV V) (he0 : 0 ≤ e) (he1 : e < V 0 1) (hq : q = 118 ∨ q = 125) {D : Int} (hD : 0 ≤ D) : ∀ (k : Nat) (W g : AMem) (r : Int) (y : AVal), PI V W (V 3 e) D → 10 ≤ W 0 0 + k → 0 ≤ r → r ≤ 9 → r ≤ W 0 0 → PlW L V e kd W q g → Ho L V e g → ∃ g1, jPl_make_17 L q kd r y g = (jPl_addSettings L q g1).bind (fun q3 => some q3) ∧ PlW L V e kd (pLp V (V 3 e) kd k W) q g1 ∧ Pf q g g1
  | 0, W, g, r, y, hI, hk, r0, r9, rw0, hP, hH => by
    have h1 := PI_m hI
    have h2 := opC_0 (W := W) (n := V 1 (V 3 e))
    refine ⟨g, ?_, hP, Pf_r⟩
    rw [jPl_make_17_eq L q kd r y g (kP' hq), hP.1.2.2.2]
    by_cases c : 9 ≤ r
    · rw [if_pos c]
    · rw [if_neg c, if_pos (by omega)]
  | k + 1, W, g, r, y, hI, hk, r0, r9, rw0, hP, hH => by
    have hn := edg_n hV he0 he1
    have hB := bOK_e hV he0 he1
    have h1 := PI_m hI
    have h2 := opC_0 (W := W) (n := V 1 (V 3 e))
    have h00 := hI.1.1
    rw [jPl_make_17_eq L q kd r y g (kP' hq), hP.1.2.2.2, pLp]
    by_cases h0 : opC W (V 1 (V 3 e)) = 0
    · rw [if_pos h0]
      refine ⟨g, ?_, hP, Pf_r⟩
      by_cases c : 9 ≤ r
      · rw [if_pos c]
      · rw [if_neg c, if_pos (by omega)]
    · have hst := PI_st (kd := kd) hB hI (by omega)
      have hl := cP_leastOpen hV he0 he1 hq hP true
      have hl2 := cP_leastOpen hV he0 he1 hq hP false
      rw [if_pos rfl] at hl
      rw [if_neg (by simp)] at hl2
      rw [if_neg (show ¬ 9 ≤ r by omega), if_neg (show ¬ opC W (V 1 (V 3 e)) ≤ 0 by omega), if_neg h0, hl, bnd, iw_n (by omega) (by omega)]
      dsimp only
      have hgo : ∃ g1 w1, (if loM (loI V W (V 3 e) true) < 0 then ((jPl_leastOpen L q 0 g).bind (fun q8 => (jPl_breakRing L q q8.1 q8.2).bind (fun q9 => jPl_make_17 L q kd (r + 1) (vI (loM (loI V W (V 3 e) true))) q9))) else ((jPl_moveTo L q (loM (loI V W (V 3 e) true)) g).bind (fun q10 => jPl_make_17 L q kd (r + 1) (vI (loM (loI V W (V 3 e) true))) q10))) = jPl_make_17 L q kd (r + 1) w1 g1 ∧ PlW L V e kd (pSt V W (V 3 e) kd) q g1 ∧ Pf q g g1 := by
        unfold pSt
        by_cases hc : loI V W (V 3 e) true = -201
        · have e1 : loM (loI V W (V 3 e) true) = -1 := by unfold loM; rw [if_pos hc]
          rw [e1, if_pos (by omega), if_pos hc, hl2, bnd]
          obtain ⟨hs, hA⟩ := stk_f hB hI hc
          obtain ⟨i, i0, i1, i2⟩ := opC_p (W := W) (n := V 1 (V 3 e)) (by omega)
          rcases loI_b (V := V) (W := W) (u := false) hB with hf | hf
          · have := (loI_n hB hf i0 i1 i2).1
            cases this
          · have e2 : loM (loI V W (V 3 e) false) = loI V W (V 3 e) false := by unfold loM; rw [if_neg (by omega)]
            unfold PhA at hA
            obtain ⟨g1, q1, q2, q3⟩ := cP_breakRing hV he0 he1 hq hP hI.1 hs (by omega) hf.1 hf.2.1 hf.2.2.1
            refine ⟨g1, vI (-1), ?_, q2, q3⟩
            dsimp only
            rw [e2, q1, bnd]
        · rcases loI_b (V := V) (W := W) (u := true) hB with hf | hf
          · exact absurd hf hc
          · have e1 : loM (loI V W (V 3 e) true) = loI V W (V 3 e) true := by unfold loM; rw [if_neg hc]
            rw [e1, if_neg (by omega), if_neg hc]
            obtain ⟨g1, q1, q2, q3⟩ := cP_moveTo hV he0 he1 hq hP h00 (by omega) hf.1 hf.2.1 hf.2.2.1
            refine ⟨g1, vI (loI V W (V 3 e) true), ?_, q2, q3⟩
            rw [q1, bnd]
      obtain ⟨g1, w1, q1, q2, q3⟩ := hgo
      obtain ⟨g', p1, p2, p3⟩ := cP_loop hV he0 he1 hq hD k (pSt V W (V 3 e) kd) g1 (r + 1) w1 hst.1 (by omega) (by omega) (by omega) (by omega) q2 (Ho_p hq hH q3)
      refine ⟨g', ?_, p2, Pf_t q3 p3⟩
      rw [← p1]
      exact q1
theorem cP_openAll (hV : VaV V) (he0 : 0 ≤ e) (he1 : e < V 0 1) (hq : q = 118 ∨ q = 125) (hH : Ho L V e g) (h3 : g q 3 = 0) (h4 : g q 4 = kd) : ∃ g', jPl_openAll L q g = some g' ∧ PlW L V e kd (opW V e) q g' ∧ Pf q g g' := by
  have hn := edg_n hV he0 he1
  obtain ⟨G, hG⟩ : ∃ G, G = up (up (up g q 5 (g 116 0)) q 6 (V 1 (V 3 e))) q 9 0 := ⟨_, rfl⟩
  have hGn : ∀ a k, a ≠ q → G a k = g a k := fun a k c => by rw [hG, up_n (by omega), up_n (by omega), up_n (by omega)]
  have g5 : G q 5 = g 116 0 := by rw [hG, up_n (by omega), up_n (by omega), up_s]
  have g6 : G q 6 = V 1 (V 3 e) := by rw [hG, up_n (by omega), up_s]
  have g9 : G q 9 = 0 := by rw [hG, up_s]
  have g3 : G q 3 = 0 := by rw [hG, up_n (by omega), up_n (by omega), up_n (by omega)]; exact h3
  have g4 : G q 4 = kd := by rw [hG, up_n (by omega), up_n (by omega), up_n (by omega)]; exact h4
  have hHG : Ho L V e G := Ho_k hH (fun a k c => hGn a k (by omega))
  have hcn : ∀ k : Nat, cnB (fun i => decide (opW V e 4 i ≠ 0)) k = cnB (opB V e) k := fun k => cnB_cong (fun i _ _ => by
    rw [opW_4]
    cases opB V e i <;> simp)
  rw [jPl_openAll_eq L q g (kP' hq), if_pos hH.1.1, up_n (show (116 : Int) ≠ q ∨ (2 : Int) ≠ 5 by omega), hH.2.2.1, ← hG]
  refine lpx (F := fun i h => jPl_openAll_23 L q i h) (I := fun i h => (∀ a k, ¬ (a = q ∧ k = 9) → a ≠ q + 5 → a ≠ q + 6 → h a k = G a k) ∧ h q 9 = cnB (opB V e) i.toNat ∧ ∀ j, 0 ≤ j → j < i → h (q + 6) j = opW V e 4 j ∧ h (q + 5) j = opW V e 5 j) (P := fun o => ∃ g', o = some g' ∧ PlW L V e kd (opW V e) q g' ∧ Pf q g g') (n := V 1 (V 3 e)) ?_ ?_ 0 G (Int.le_refl _) hn.1 ⟨fun a k _ _ _ => rfl, by rw [g9]; rfl, fun j j0 j1 => by omega⟩
  · intro i h h2 h3 hI ih
    have hb := cnB_b (f := opB V e) (k := i.toNat)
    have c6 : 0 ≤ i ∧ i < 6 := by omega
    have hHh : Ho L V e h := Ho_k hHG (fun a k c => hI.1 a k (by omega) (by omega) (by omega))
    have hi := hHh.2.2.2 i h2 h3
    have e6 : h q 6 = V 1 (V 3 e) := by rw [hI.1 _ _ (by omega) (by omega) (by omega), g6]
    have hHu : Ho L V e (up h (q + 5) i (V (20 + e) i)) := Ho_k hHh (fun a k c => up_n (by omega))
    have key : ∀ v x, v = opW V e 4 i → x = h q 9 + (if opB V e i = true then 1 else 0) → ∃ g', jPl_openAll_23 L q (i + 1) (up (up (up h (q + 5) i (V (20 + e) i)) (q + 6) i v) q 9 x) = some g' ∧ PlW L V e kd (opW V e) q g' ∧ Pf q g g' := by
      intro v x hv hx
      refine ih _ ⟨fun a k c1 c2 c3 => by rw [up_n (by omega), up_n (by omega), up_n (by omega), hI.1 a k c1 c2 c3], ?_, fun j j0 j1 => ?_⟩
      · rw [up_s, hx, hI.2.1, cnB_s h2]
      · rw [up_n (show q + 6 ≠ q ∨ j ≠ 9 by omega), up_n (show q + 5 ≠ q ∨ j ≠ 9 by omega), up_n (show q + 5 ≠ q + 6 ∨ j ≠ i by omega)]
        by_cases c : j = i
        · rw [c, up_s, up_s]
          exact ⟨hv, opW_5.symm⟩
        · rw [up_n (by omega), up_n (by omega), up_n (by omega)]
          exact hI.2.2 j j0 (by omega)
    rw [jPl_openAll_23_eq L q i h (kP' hq), e6, if_neg (by omega), if_pos hHh.2.1.1, if_pos (by rw [hHh.2.1.2.1]; exact c6), if_pos c6, hi.2, cH_isOpen hV he0 he1 hHu h2 h3, bnd]
    dsimp only
    rw [if_pos ⟨c6, b2b.mpr trivial⟩, if_pos c6, iw_n (show 0 ≤ i + 1 by omega) (by omega)]
    have e9 : ∀ v, up (up h (q + 5) i (V (20 + e) i)) (q + 6) i v q 9 = h q 9 := fun v => by rw [up_n (by omega), up_n (by omega)]
    simp only [e9, up_s]
    rw [hI.2.1, iw_n (show 0 ≤ cnB (opB V e) i.toNat + 0 by omega) (by omega), iw_n (show 0 ≤ cnB (opB V e) i.toNat + 1 by omega) (by omega), ifz]
    rw [hI.2.1, opW_4] at key
    by_cases c : opB V e i = true
    · simp only [c, if_true] at key ⊢
      exact key _ _ rfl rfl
    · simp only [c, if_false] at key ⊢
      exact key _ _ rfl rfl
  · intro h hI
    have e6 : h q 6 = V 1 (V 3 e) := by rw [hI.1 _ _ (by omega) (by omega) (by omega), g6]
    have e5 : h q 5 = g 116 0 := by rw [hI.1 _ _ (by omega) (by omega) (by omega), g5]
    have h00 : opW V e 0 0 = 0 := by simp [opW]
    refine ⟨h, ?_, ⟨⟨?_, ?_, e6, ?_⟩, ⟨by rw [e5]; exact hH.1.1, by rw [e5]; exact hH.1.2.1, by rw [e5]; exact hH.1.2.2, fun i i0 i1 => ?_⟩, fun k k0 k1 => by omega, fun i i0 i1 => hI.2.2 i i0 i1⟩, fun a k c => by rw [hI.1 a k (by omega) (by omega) (by omega), hGn a k (by omega)]⟩
    · rw [jPl_openAll_23_eq L q _ h (kP' hq), e6, if_pos (Int.le_refl _)]
    · rw [hI.1 _ _ (by omega) (by omega) (by omega), g3, h00]
    · rw [hI.1 _ _ (by omega) (by omega) (by omega), g4]
    · rw [hI.2.1]
      unfold opC
      rw [hcn]
    · have hlt := hH.1.2.2
      rw [e5, hI.1 _ _ (by omega) (by omega) (by omega), hGn _ _ (by omega)]
      exact (hH.2.2.2 i i0 i1).1
theorem cP_make (hV : VaV V) (he0 : 0 ≤ e) (he1 : e < V 0 1) (hq : q = 118 ∨ q = 125) (hH : Ho L V e g) : ∃ g', jPl_make L q kd g = some g' ∧ PlW L V e kd (plV V e kd) q g' ∧ Pf q g g' := by
  have hn := edg_n hV he0 he1
  have hB := bOK_e hV he0 he1
  have hd := dC_b hV he0 he1
  have h10 : 10 ≤ opW V e 0 0 + (10 : Nat) := by simp [opW]
  have h00 : opW V e 0 0 = 0 := by simp [opW]
  have hS0 : Pf q g (up (up g q 3 0) q 4 kd) := Pf_u (Pf_u Pf_r (by omega)) (by omega)
  obtain ⟨g1, a1, a2, a3⟩ := cP_openAll hV he0 he1 hq (Ho_p hq hH hS0) (by rw [up_n (by omega), up_s]) up_s
  have hH1 := Ho_p hq (Ho_p hq hH hS0) a3
  obtain ⟨g2, b1, b2, b3⟩ := cP_loop hV he0 he1 hq hd.1 10 (opW V e) g1 0 vU (PI_0 hV he0 he1) h10 (by omega) (by omega) (by omega) a2 hH1
  have hl := pLp_l (kd := kd) hB hd.1 10 (opW V e) (PI_0 hV he0 he1) h10
  have hz := PI_z hl.1 hl.2
  have hcb := cnB_b (f := drF V e ((0 : Nat) : Int)) (k := (V 1 (V 3 e)).toNat)
  obtain ⟨g3, c1, c2, c3⟩ := cP_set hV he0 he1 hq hl.1.1.1 (by omega) (V 1 (V 3 e)).toNat (-1) 0 0 g2 vU (fun i i0 i1 => by
    have := isRg_b (hB.2.1 i i0 i1)
    omega) (by omega) b2 (Ho_p hq hH1 b3) (by omega) (by omega) (by omega)
  refine ⟨g3, ?_, c2, Pf_t hS0 (Pf_t a3 (Pf_t b3 c3))⟩
  rw [jPl_make_eq L q kd g (kP' hq), a1, bnd, b1, jPl_addSettings_eq L q g2 (kP' hq), c1, bnd]
end PLS
