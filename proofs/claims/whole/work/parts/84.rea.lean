/-! the class: reach -/
section REC
variable {L : Nat} {V g : AMem} {a b e i w : Int}
def R6 (g h : AMem) : Prop := ∀ a k, a ≠ 136 → h a k = g a k
theorem R6_c {h : AMem} (hS : R6 g h) : Cs g h := fun a k q => hS a k (by omega)
/-- found in this round, by the edges ahead of i -/
def dJ (V : AMem) (a r : Int) (i : Int) (b : Int) : Int := if dsR V a r.toNat b ≠ -201 then dsR V a r.toNat b else if anB (fun e => decide (V 3 e = b) && decide (dsR V a r.toNat (V 2 e) = r)) i.toNat = true then r + 1 else -201
theorem dJ_e {r : Int} (h0 : 0 ≤ r) : dJ V a r (V 0 1) b = dsR V a (r + 1).toNat b := by
  have e1 : (r + 1).toNat = r.toNat + 1 := by omega
  unfold dJ
  rw [e1, dsR]
  by_cases q : dsR V a r.toNat b ≠ -201
  · rw [if_pos q, if_pos q]
  · rw [if_neg q, if_neg q]
    have hb := dsR_b (V := V) (a := a) (b := b) (r := r.toNat)
    have hnr : rK V a r.toNat b = false := by
      rcases hb with h | h
      · exact h.2
      · omega
    have hiff : anB (fun e => decide (V 3 e = b) && decide (dsR V a r.toNat (V 2 e) = r)) (V 0 1).toNat = true ↔ rK V a (r.toNat + 1) b = true := by
      constructor
      · intro h
        obtain ⟨e, e0, e1, e2⟩ := anB_t.mp h
        simp only [Bool.and_eq_true, decide_eq_true_eq] at e2
        rcases dsR_b (V := V) (a := a) (b := V 2 e) (r := r.toNat) with h1 | h1
        · omega
        · have h2 := h1.2.2.1
          rw [e2.2] at h2
          have := rK_e (V := V) (a := a) (k := r.toNat) e0 (by omega) h2
          rw [e2.1] at this
          exact this
      · intro h
        rcases rK_u h with h | ⟨e, e0, e1, e2, e3⟩
        · rw [hnr] at h
          cases h
        · refine anB_t.mpr ⟨e, e0, by omega, ?_⟩
          simp only [Bool.and_eq_true, decide_eq_true_eq]
          refine ⟨e2, ?_⟩
          have ht := dsR_t (V := V) (a := a) e3 (Nat.le_refl _)
          by_cases hl : dsR V a r.toNat (V 2 e) < r
          · rcases dsR_b (V := V) (a := a) (b := V 2 e) (r := r.toNat) with h1 | h1
            · omega
            · have h2 := rK_e (V := V) (a := a) e0 e1 h1.2.2.1
              rw [e2] at h2
              have := rK_le (k := r.toNat) (by omega) h2
              rw [hnr] at this
              cases this
          · omega
    by_cases c : rK V a (r.toNat + 1) b = true
    · rw [if_pos (hiff.mpr c), if_pos c]
      omega
    · rw [if_neg (fun h => c (hiff.mp h)), if_neg c]
theorem cX_further {t r : Int} (hV : VaV V) (hC : ClV V t g) (hr0 : 0 ≤ r) (hr1 : r < V 0 0) (hd : ∀ b, 0 ≤ b → b < V 0 0 → g 136 b = dsR V a r.toNat b) : ∃ g', jX_goOneFurther L r g = some g' ∧ R6 g g' ∧ ∀ b, 0 ≤ b → b < V 0 0 → g' 136 b = dsR V a (r + 1).toNat b := by
  have hn := hV.2.1
  have h00 := hV.1
  rw [jX_goOneFurther_eq]
  refine lpx (F := fun i s => jX_goOneFurther_2 L r i s.1 s.2) (σ := AVal × AMem) (I := fun i s => R6 g s.2 ∧ ∀ b, 0 ≤ b → b < V 0 0 → s.2 136 b = dJ V a r i b) (P := fun o => ∃ g', o = some g' ∧ R6 g g' ∧ ∀ b, 0 ≤ b → b < V 0 0 → g' 136 b = dsR V a (r + 1).toNat b) (n := V 0 1) ?_ ?_ 0 (vU, g) (Int.le_refl _) hn.1 ⟨fun _ _ _ => rfl, fun b b0 b1 => ?_⟩
  · intro i s h2 h3 hI ih
    obtain ⟨y, h⟩ := s
    have ih := fun y h => ih (y, h)
    dsimp only at hI ih ⊢
    have hCh := ClV_cs hV hC (R6_c hI.1)
    have hk3 : kin (SH L) (h 2 0) = 3 := by rw [hCh.2.1.1]; exact kG' hCh.1
    have hE := hCh.2.2.1.2.2 i h2 h3
    rw [← hCh.2.1.1] at hE
    have hE2 := hV.2.2.2.2.2.1 i h2 h3
    have c16 : 0 ≤ i ∧ i < 16 := by omega
    have cf : 0 ≤ V 2 i ∧ V 2 i < 10 := by omega
    have ct : 0 ≤ V 3 i ∧ V 3 i < 10 := by omega
    have hs : ∀ b, dJ V a r (i + 1) b = if dsR V a r.toNat b ≠ -201 then dsR V a r.toNat b else if (anB (fun e => decide (V 3 e = b) && decide (dsR V a r.toNat (V 2 e) = r)) i.toNat || (decide (V 3 i = b) && decide (dsR V a r.toNat (V 2 i) = r))) = true then r + 1 else -201 := fun b => by
      unfold dJ
      rw [anB_s h2]
    have hfr : h 136 (V 2 i) = r ↔ dsR V a r.toNat (V 2 i) = r := by
      rw [hI.2 _ cf.1 (by omega)]
      have hb := dsR_b (V := V) (a := a) (b := V 2 i) (r := r.toNat)
      unfold dJ
      by_cases q : dsR V a r.toNat (V 2 i) ≠ -201
      · rw [if_pos q]
      · rw [if_neg q]
        constructor
        · intro h
          exfalso
          revert h
          split <;> omega
        · intro h
          omega
    have hto : h 136 (V 3 i) = dJ V a r i (V 3 i) := hI.2 _ ct.1 (by omega)
    rw [jX_goOneFurther_2_eq, if_pos hk3, if_neg (show ¬ h (h 2 0) 3 ≤ i by rw [hCh.2.1.1, hCh.2.2.1.1.2]; omega), if_pos hk3, if_pos c16]
    simp only [hE.1, hE.2.1]
    rw [if_pos cf, if_pos ct, if_pos ct, iw_n (show 0 ≤ i + 1 by omega) (by omega), iw_n (show 0 ≤ r + 1 by omega) (by omega)]
    by_cases q1 : h 136 (V 2 i) = r
    · have q1' := hfr.mp q1
      rw [if_neg (show ¬ h 136 (V 2 i) ≠ r by simp [q1])]
      by_cases q2 : h 136 (V 3 i) = -201
      · rw [if_neg (show ¬ h 136 (V 3 i) ≠ -201 by simp [q2])]
        refine ih _ _ ⟨fun a k c => by rw [up_n (by omega), hI.1 a k c], fun b b0 b1 => ?_⟩
        rw [hs]
        by_cases c : b = V 3 i
        · rw [c, up_s]
          rw [hto] at q2
          unfold dJ at q2
          by_cases c2 : dsR V a r.toNat (V 3 i) ≠ -201
          · rw [if_pos c2] at q2
            exact absurd q2 c2
          · rw [if_neg c2, if_pos (by simp [q1'])]
        · rw [up_n (by omega), hI.2 b b0 b1]
          unfold dJ
          rw [show (decide (V 3 i = b) && decide (dsR V a r.toNat (V 2 i) = r)) = false by rw [decide_eq_false (fun h => c h.symm)]; rfl, Bool.or_false]
      · rw [if_pos q2]
        refine ih _ _ ⟨hI.1, fun b b0 b1 => ?_⟩
        rw [hs, hI.2 b b0 b1]
        by_cases c : b = V 3 i
        · rw [c]
          rw [hto] at q2
          unfold dJ at q2 ⊢
          by_cases c2 : dsR V a r.toNat (V 3 i) ≠ -201
          · rw [if_pos c2, if_pos c2]
          · rw [if_neg c2] at q2 ⊢
            rw [if_neg c2]
            by_cases c3 : anB (fun e => decide (V 3 e = V 3 i) && decide (dsR V a r.toNat (V 2 e) = r)) i.toNat = true
            · rw [if_pos c3, if_pos (by rw [c3]; rfl)]
            · rw [if_neg c3] at q2
              exact absurd rfl q2
        · unfold dJ
          rw [show (decide (V 3 i = b) && decide (dsR V a r.toNat (V 2 i) = r)) = false by rw [decide_eq_false (fun h => c h.symm)]; rfl, Bool.or_false]
    · have q1' : ¬ dsR V a r.toNat (V 2 i) = r := fun h => q1 (hfr.mpr h)
      rw [if_pos q1]
      refine ih _ _ ⟨hI.1, fun b b0 b1 => ?_⟩
      rw [hs, hI.2 b b0 b1]
      unfold dJ
      rw [decide_eq_false q1', Bool.and_false, Bool.or_false]
  · intro s hI
    have hCh := ClV_cs hV hC (R6_c hI.1)
    have hk3 : kin (SH L) (s.2 2 0) = 3 := by rw [hCh.2.1.1]; exact kG' hCh.1
    refine ⟨s.2, ?_, hI.1, fun b b0 b1 => by rw [hI.2 b b0 b1, dJ_e hr0]⟩
    rw [jX_goOneFurther_2_eq, if_pos hk3, if_pos (show s.2 (s.2 2 0) 3 ≤ V 0 1 by rw [hCh.2.1.1, hCh.2.2.1.1.2]; omega)]
  · dsimp only
    rw [hd b b0 b1]
    unfold dJ
    by_cases q : dsR V a r.toNat b ≠ -201
    · rw [if_pos q]
    · rw [if_neg q, if_neg (by simp [anB])]
      omega
theorem cAr_fill : ∃ g', jAr_fill L w g = some g' ∧ R6 g g' ∧ ∀ b, 0 ≤ b → b < 10 → g' 136 b = w := by
  rw [jAr_fill_eq]
  refine lpx (F := fun i h => jAr_fill_5 L w i 10 h) (I := fun i h => R6 g h ∧ ∀ b, 0 ≤ b → b < i → h 136 b = w) (P := fun o => ∃ g', o = some g' ∧ R6 g g' ∧ ∀ b, 0 ≤ b → b < 10 → g' 136 b = w) (n := 10) ?_ ?_ 0 g (Int.le_refl _) (by omega) ⟨fun _ _ _ => rfl, fun b b0 b1 => by omega⟩
  · intro i h h2 h3 hI ih
    rw [jAr_fill_5_eq, if_neg (by omega), if_pos (by omega), iw_n (by omega) (by omega)]
    refine ih _ ⟨fun a k c => by rw [up_n (by omega), hI.1 a k c], fun b b0 b1 => ?_⟩
    by_cases c : b = i
    · rw [c, up_s]
    · rw [up_n (by omega)]
      exact hI.2 b b0 (by omega)
  · intro h hI
    exact ⟨h, by rw [jAr_fill_5_eq, if_pos (by omega)], hI⟩
theorem cX_reach {t : Int} (hV : VaV V) (hC : ClV V t g) : CO (oReach V a b) (jX_reach L a b g) g := by
  have h00 := hV.1
  have ht := hC.1
  have e20 := hC.2.1.1
  subst e20
  rw [jX_reach_eq, if_pos (kG' ht), cG_hasBlock ht hC.2.2.1, bnd]
  dsimp only
  rw [ifz, if_pos (kG' ht), cG_hasBlock ht hC.2.2.1, bnd]
  dsimp only
  rw [ifn]
  simp only [bns]
  unfold oReach
  by_cases ha : 0 ≤ a ∧ a < V 0 0
  · rw [if_pos ha, if_pos ha]
    by_cases hb : 0 ≤ b ∧ b < V 0 0
    · rw [if_pos hb, if_pos hb]
      obtain ⟨g1, a1, a2, a3⟩ := cAr_fill (L := L) (g := g) (w := -201)
      rw [a1, bnd, if_pos (by omega)]
      have hS1 : R6 g (up g1 136 a 0) := fun a k c => by rw [up_n (by omega), a2 a k c]
      refine lpx (F := fun i h => jX_reach_49 L a b i h) (I := fun i h => R6 g h ∧ ∀ b, 0 ≤ b → b < V 0 0 → h 136 b = dsR V a i.toNat b) (P := fun o => CO (dsR V a (V 0 0).toNat b, V) o g) (n := V 0 0) ?_ ?_ 0 _ (Int.le_refl _) h00.1 ⟨hS1, fun b b0 b1 => ?_⟩
      · intro i h h2 h3 hI ih
        have hCh := ClV_cs hV hC (R6_c hI.1)
        have hk3 : kin (SH L) (h 2 0) = 3 := by rw [hCh.2.1.1]; exact kG' hCh.1
        obtain ⟨g2, b1, b2, b3⟩ := cX_further (L := L) (a := a) hV hCh h2 h3 hI.2
        rw [jX_reach_49_eq, if_pos hk3, if_neg (show ¬ h (h 2 0) 2 ≤ i by rw [hCh.2.1.1, hCh.2.2.1.1.1]; omega), b1, bnd, iw_n (by omega) (by omega)]
        exact ih g2 ⟨fun a k c => by rw [b2 a k c, hI.1 a k c], b3⟩
      · intro h hI
        have hCh := ClV_cs hV hC (R6_c hI.1)
        have hk3 : kin (SH L) (h 2 0) = 3 := by rw [hCh.2.1.1]; exact kG' hCh.1
        rw [jX_reach_49_eq, if_pos hk3, if_pos (show h (h 2 0) 2 ≤ V 0 0 by rw [hCh.2.1.1, hCh.2.2.1.1.1]; omega), if_pos (by omega), hI.2 b hb.1 hb.2]
        exact CO_c hV hC (R6_c hI.1)
      · rw [show (0 : Int).toNat = 0 by rfl, dsR, rK]
        by_cases c : b = a
        · rw [c, up_s, if_pos (by simp)]
        · rw [up_n (by omega), a3 b b0 (by omega), if_neg (by simp [c])]
    · rw [if_neg hb, if_neg hb]
      exact CO_B hV hC
  · rw [if_neg ha, if_neg ha]
    exact CO_B hV hC
end REC
