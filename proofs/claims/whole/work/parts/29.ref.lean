/-! the reference: new edges, arguments; what changes little -/
theorem VaV_g {V V' : AMem} (hV : VaV V) (h : ∀ a k, (a = 0 ∧ k < 2) ∨ (1 ≤ a ∧ a ≤ 3) ∨ 10 ≤ a → V' a k = V a k) (h2 : 0 ≤ V' 0 2 ∧ V' 0 2 ≤ 4) (h6 : 0 ≤ V' 0 6 ∧ V' 0 6 ≤ 120) (h4 : ∀ e, 0 ≤ e → e < V 0 1 → 0 ≤ V' 4 e ∧ V' 4 e ≤ 99) (h5 : ∀ i, 0 ≤ i → i < V' 0 6 → 0 ≤ V' 5 i ∧ V' 5 i ≤ 127) : VaV V' := by
  obtain ⟨v0, v1, v2, v3, v4, v5, v6⟩ := hV
  refine ⟨by rw [h _ _ (by omega)]; exact v0, by rw [h _ _ (by omega)]; exact v1, h2, h6, ?_, ?_, h5⟩
  · intro b hb0 hb1
    rw [h _ _ (by omega)] at hb1
    have hB := v4 b hb0 hb1
    rw [h 1 _ (by omega)]
    refine ⟨hB.1, fun i hi0 hi1 => ?_, fun i j hi0 hi1 hi2 => ?_⟩
    · rw [h _ _ (by omega)]
      exact hB.2.1 i hi0 hi1
    · rw [h _ _ (by omega), h _ _ (by omega)]
      exact hB.2.2 i j hi0 hi1 hi2
  · intro e he0 he1
    rw [h _ _ (by omega)] at he1
    have hE := v5 e he0 he1
    rw [h 2 _ (by omega), h 3 _ (by omega), h 0 0 (by omega), h 1 _ (by omega)]
    refine ⟨hE.1, hE.2.1, h4 e he0 he1, fun i hi0 hi1 => ?_⟩
    rw [h _ _ (by omega), h _ _ (by omega)]
    exact hE.2.2.2 i hi0 hi1
theorem RfV_g {V V' g g' : AMem} (hV : VaV V) (hR : RfV V g) (hv : ∀ a k, (a = 0 ∧ k < 2) ∨ (1 ≤ a ∧ a ≤ 3) ∨ 10 ≤ a → V' a k = V a k) (hg : ∀ a k, (139 ≤ a ∧ a ≤ 142) ∨ a = 144 ∨ (a = 137 ∧ (k = 1 ∨ k = 2)) → g' a k = g a k) (h0 : g' 137 3 = V' 0 2 ∧ g' 138 0 = V' 0 3 ∧ g' 138 1 = V' 0 4 ∧ g' 138 2 = V' 0 5 ∧ g' 137 24 = V' 0 6) (h4 : ∀ e, 0 ≤ e → e < V 0 1 → g' 143 e = V' 4 e) (h5 : ∀ i, 0 ≤ i → i < V' 0 6 → g' 156 i = V' 5 i) : RfV V' g' := by
  obtain ⟨r0, r1, r2, r3⟩ := hR
  refine ⟨⟨by rw [hg _ _ (by omega), hv _ _ (by omega)]; exact r0.1, by rw [hg _ _ (by omega), hv _ _ (by omega)]; exact r0.2.1, h0⟩, fun b hb0 hb1 => ?_, fun e he0 he1 => ?_, h5⟩
  · rw [hv _ _ (by omega)] at hb1
    have hB := r1 b hb0 hb1
    rw [hg _ _ (by omega), hv _ _ (by omega)]
    refine ⟨hB.1, fun i hi0 hi1 => ?_⟩
    rw [hg _ _ (by omega), hv _ _ (by omega)]
    exact hB.2 i hi0 hi1
  · rw [hv _ _ (by omega)] at he1
    have hE := r2 e he0 he1
    rw [hg 141 _ (by omega), hg 142 _ (by omega), hv 2 _ (by omega), hv 3 _ (by omega), hv 1 _ (by omega)]
    refine ⟨hE.1, hE.2.1, h4 e he0 he1, fun i hi0 hi1 => ?_⟩
    rw [hg _ _ (by omega), hv _ _ (by omega)]
    exact hE.2.2.2 i hi0 hi1
section REF4
variable {L : Nat} {V g : AMem} {a b c e f i k r t w : Int}
theorem RfV_up (hV : VaV V) (hR : RfV V g) (he0 : 0 ≤ e) (he1 : e < V 0 1) (hi0 : 0 ≤ i) (hi1 : i < 6) : RfV (up V (20 + e) i w) (up g 144 (6 * e + i) w) := by
  obtain ⟨r0, r1, r2, r3⟩ := hR
  have hv : ∀ a k, a < 20 → up V (20 + e) i w a k = V a k := fun a k q => up_n (by omega)
  have hg : ∀ a k, a ≠ 144 → up g 144 (6 * e + i) w a k = g a k := fun a k q => up_n (by omega)
  refine ⟨?_, fun b hb0 hb1 => ?_, fun c hc0 hc1 => ?_, fun j hj0 hj1 => ?_⟩
  · rw [hg _ _ (by omega), hg _ _ (by omega), hg _ _ (by omega), hg _ _ (by omega), hg _ _ (by omega), hg _ _ (by omega), hg _ _ (by omega), hv _ _ (by omega), hv _ _ (by omega), hv _ _ (by omega), hv _ _ (by omega), hv _ _ (by omega), hv _ _ (by omega), hv _ _ (by omega)]
    exact r0
  · rw [hv _ _ (by omega)] at hb1
    have hB := r1 b hb0 hb1
    have h0 := hV.1
    rw [hg _ _ (by omega), hv _ _ (by omega)]
    refine ⟨hB.1, fun i hi0 hi1 => ?_⟩
    rw [hg _ _ (by omega), hv _ _ (by omega)]
    exact hB.2 i hi0 hi1
  · rw [hv _ _ (by omega)] at hc1
    have hE := r2 c hc0 hc1
    have hE2 := hV.2.2.2.2.2.1 c hc0 hc1
    have hB2 := (hV.2.2.2.2.1 _ hE2.2.1.1 hE2.2.1.2).1
    rw [hg _ _ (by omega), hg _ _ (by omega), hg _ _ (by omega), hv _ _ (by omega), hv _ _ (by omega), hv _ _ (by omega), hv _ _ (by omega)]
    refine ⟨hE.1, hE.2.1, hE.2.2.1, fun j hj0 hj1 => ?_⟩
    by_cases q : c = e ∧ j = i
    · rw [q.1, q.2, up_s, up_s]
    · rw [up_n (by omega), up_n (by omega)]
      exact hE.2.2.2 j hj0 hj1
  · rw [hv _ _ (by omega)] at hj1
    rw [hg _ _ (by omega), hv _ _ (by omega)]
    exact r3 j hj0 hj1
theorem cM_newEdge (hV : VaV V) (hR : RfV V g) (ht0 : 0 ≤ t) (ht1 : t < V 0 0) (hn : V 0 1 < 16) : ∃ g', jM_newEdge L f t w g = some (V 0 1, g') ∧ RfV (neV V f t w) g' ∧ Lo g g' := by
  have h0 := hV.1
  have h1 := hV.2.1
  have hm := (hV.2.2.2.2.1 t ht0 ht1).1
  have hR' := hR
  obtain ⟨r0, r1, r2, r3⟩ := hR
  rw [jM_newEdge_eq, r0.2.1, if_pos (by omega), if_pos (by omega), if_pos (by omega)]
  refine lpx (F := fun i h => jM_newEdge_33 L f t w (V 0 1) i h) (I := fun i h => (∀ a k, a ≠ 144 → h a k = up (up (up g 141 (V 0 1) f) 142 (V 0 1) t) 143 (V 0 1) w a k) ∧ ∀ e j, 0 ≤ e → 0 ≤ j → j < 6 → h 144 (6 * e + j) = if e = V 0 1 ∧ j < i then V (10 + t) j else g 144 (6 * e + j)) (P := fun q => ∃ g', q = some (V 0 1, g') ∧ RfV (neV V f t w) g' ∧ Lo g g') (n := V 1 t) ?_ ?_ 0 _ (Int.le_refl _) hm.1 ⟨fun a k _ => rfl, fun e j q0 q1 q2 => by rw [if_neg (by omega), up_n (by omega), up_n (by omega), up_n (by omega)]⟩
  · intro i h hi0 hi1 hI ih
    have e2 : h 139 t = V 1 t := by rw [hI.1 _ _ (by omega), up_n (by omega), up_n (by omega), up_n (by omega)]; exact (r1 t ht0 ht1).1
    have e3 : h 140 (6 * t + i) = V (10 + t) i := by rw [hI.1 _ _ (by omega), up_n (by omega), up_n (by omega), up_n (by omega)]; exact (r1 t ht0 ht1).2 i hi0 hi1
    rw [jM_newEdge_33_eq, if_pos (by omega), e2, if_neg (by omega), iw_n (show 0 ≤ 6 * t by omega) (by omega), iw_n (show 0 ≤ 6 * t + i by omega) (by omega), if_pos (by omega), iw_n (show 0 ≤ 6 * V 0 1 by omega) (by omega), iw_n (show 0 ≤ 6 * V 0 1 + i by omega) (by omega), if_pos (by omega), iw_n (show 0 ≤ i + 1 by omega) (by omega), e3]
    refine ih _ ⟨fun a k qa => by rw [up_n (by omega), hI.1 a k qa], fun e j q0 q1 q2 => ?_⟩
    by_cases q3 : e = V 0 1 ∧ j = i
    · rw [q3.1, q3.2, up_s, if_pos ⟨rfl, by omega⟩]
    · rw [up_n (by omega), hI.2 e j q0 q1 q2]
      by_cases q4 : e = V 0 1 ∧ j < i
      · rw [if_pos q4, if_pos ⟨q4.1, by omega⟩]
      · rw [if_neg q4, if_neg (by omega)]
  · intro h hI
    have n : ∀ a j, a < 141 ∨ 144 < a → h a j = g a j := fun a j h1 => by rw [hI.1 _ _ (by omega), up_n (by omega), up_n (by omega), up_n (by omega)]
    have n2 : ∀ a j, j ≠ V 0 1 → a ≠ 144 → h a j = g a j := fun a j h1 h2 => by rw [hI.1 _ _ h2, up_n (by omega), up_n (by omega), up_n (by omega)]
    have e2 : h 139 t = V 1 t := by rw [n _ _ (by omega)]; exact (r1 t ht0 ht1).1
    have m : ∀ a k, a = 1 ∨ (5 ≤ a ∧ a < 20) → neV V f t w a k = V a k := fun a k q => ne_n (by omega) (by omega) (by omega)
    have m0 : ∀ k, k ≠ 1 → neV V f t w 0 k = V 0 k := fun k q => ne_n (by omega) (by omega) (by omega)
    refine ⟨up h 137 2 (V 0 1 + 1), ?_, ?_, fun a k q => by rw [up_n (by omega), n a k (by omega)]⟩
    · rw [jM_newEdge_33_eq, if_pos (by omega), e2, if_pos (Int.le_refl _), n _ _ (by omega), r0.2.1, iw_n (by omega) (by omega)]
    · refine ⟨⟨?_, ?_, ?_, ?_, ?_, ?_, ?_⟩, fun c hc0 hc1 => ?_, fun e he0 he1 => ?_, fun i hi0 hi1 => ?_⟩
      · rw [up_n (by omega), n _ _ (by omega), m0 _ (by omega)]; exact r0.1
      · rw [up_s, ne_0 h1.1]
      · rw [up_n (by omega), n _ _ (by omega), m0 _ (by omega)]; exact r0.2.2.1
      · rw [up_n (by omega), n _ _ (by omega), m0 _ (by omega)]; exact r0.2.2.2.1
      · rw [up_n (by omega), n _ _ (by omega), m0 _ (by omega)]; exact r0.2.2.2.2.1
      · rw [up_n (by omega), n _ _ (by omega), m0 _ (by omega)]; exact r0.2.2.2.2.2.1
      · rw [up_n (by omega), n _ _ (by omega), m0 _ (by omega)]; exact r0.2.2.2.2.2.2
      · rw [m0 _ (by omega)] at hc1
        have hB := r1 c hc0 hc1
        rw [up_n (by omega), n _ _ (by omega), m _ _ (by omega)]
        refine ⟨hB.1, fun i hi0 hi1 => ?_⟩
        rw [up_n (by omega), n _ _ (by omega), m _ _ (by omega)]
        exact hB.2 i hi0 hi1
      · rw [ne_0 h1.1] at he1
        by_cases q : e = V 0 1
        · rw [q, ne_2, ne_3, ne_4, up_n (by omega), up_n (by omega), up_n (by omega), hI.1 _ _ (by omega), hI.1 _ _ (by omega), hI.1 _ _ (by omega)]
          refine ⟨by rw [up_n (by omega), up_n (by omega), up_s], by rw [up_n (by omega), up_s], by rw [up_s], fun i hi0 hi1 => ?_⟩
          rw [m _ _ (by omega)] at hi1
          rw [up_n (by omega), hI.2 _ i h1.1 hi0 (by omega), if_pos ⟨rfl, hi1⟩, ne_a h1.1 hi0 hi1]
        · have hE := r2 e he0 (by omega)
          have hE2 := hV.2.2.2.2.2.1 e he0 (by omega)
          have hB2 := (hV.2.2.2.2.1 _ hE2.2.1.1 hE2.2.1.2).1
          rw [ne_n (a := 2) (by omega) (by omega) (by omega), ne_n (a := 3) (by omega) (by omega) (by omega), ne_n (a := 4) (by omega) (by omega) (by omega), up_n (by omega), up_n (by omega), up_n (by omega), n2 _ _ q (by omega), n2 _ _ q (by omega), n2 _ _ q (by omega)]
          refine ⟨hE.1, hE.2.1, hE.2.2.1, fun i hi0 hi1 => ?_⟩
          rw [m _ _ (by omega)] at hi1
          rw [up_n (by omega), hI.2 _ i he0 hi0 (by omega), if_neg (by omega), ne_n (by omega) (by omega) (by omega)]
          exact hE.2.2.2 i hi0 hi1
      · rw [m0 _ (by omega)] at hi1
        rw [up_n (by omega), n _ _ (by omega), m _ _ (by omega)]
        exact r3 i hi0 hi1
end REF4
