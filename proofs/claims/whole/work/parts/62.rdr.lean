/-! the reference reads -/
def Rd (V W : AMem) (p : Int) (g : AMem) : Prop := VaV W ∧ TX V W ∧ RfV W g ∧ g 137 25 = p ∧ 0 ≤ p ∧ p ≤ V 0 6
def Pk (g g' : AMem) : Prop := ∀ a k, ¬ (a = 137 ∧ (k = 25 ∨ k = 26)) → g' a k = g a k
section RDR
variable {L : Nat} {V W g h : AMem} {a b c e f hi i j lo n p q t w x : Int}
theorem Pk_r : Pk g g := fun _ _ _ => rfl
theorem Pk_t {j : AMem} (h1 : Pk g h) (h2 : Pk h j) : Pk g j := fun a k q => by rw [h2 a k q, h1 a k q]
theorem Pk_u (h1 : Pk g h) (h2 : j = 25 ∨ j = 26) : Pk g (up h 137 j x) := fun a k q => by rw [up_n (by omega), h1 a k q]
def Lr (g g' : AMem) : Prop := ∀ a k, (a < 137 ∨ a = 153 ∨ a = 157) → g' a k = g a k
theorem Lr_t {j : AMem} (h1 : Lr g h) (h2 : Lr h j) : Lr g j := fun a k q => by rw [h2 a k q, h1 a k q]
theorem Lr_p (h1 : Pk g h) : Lr g h := fun a k q => h1 a k (by omega)
theorem Lr_l (h1 : Lo g h) : Lr g h := fun a k q => h1 a k (by omega)
theorem Rd_k (hR : Rd V W p g) (hP : Pk g h) (h1 : h 137 25 = q) (h2 : 0 ≤ q) (h3 : q ≤ V 0 6) : Rd V W q h :=
  ⟨hR.1, hR.2.1, RfV_k hR.2.2.1 (fun a k q => hP a k (by omega)), h1, h2, h3⟩
theorem Rd_b (hR : Rd V W p g) : V 0 6 ≤ 120 ∧ g 137 24 = V 0 6 ∧ (∀ i, 0 ≤ i → i < V 0 6 → g 156 i = V 5 i ∧ 0 ≤ V 5 i ∧ V 5 i ≤ 127) := by
  obtain ⟨r1, r2, r3, r4, r5, r6⟩ := hR
  have h6 := r1.2.2.2.1
  rw [r2.1] at h6
  refine ⟨h6.2, by rw [r3.1.2.2.2.2.2.2, r2.1], fun i i0 i1 => ?_⟩
  have hc := r1.2.2.2.2.2.2 i i0 (by rw [r2.1]; exact i1)
  rw [r2.2.1] at hc
  exact ⟨by rw [r3.2.2.2 i i0 (by rw [r2.1]; exact i1), r2.2.1], hc⟩
theorem cM_here (hR : Rd V W p g) : jM_here L g = some (if p < V 0 6 then V 5 p else -201, g) := by
  have hb := Rd_b hR
  obtain ⟨r1, r2, r3, r4, r5, r6⟩ := hR
  rw [jM_here_eq, hb.2.1, r4]
  by_cases q : p < V 0 6
  · rw [if_neg (by omega), if_pos (by omega), if_pos q, (hb.2.2 p r5 q).1]
  · rw [if_pos (by omega), if_neg q]
theorem cM_skip (hR : Rd V W p g) : ∃ g', jM_skip L g = some g' ∧ Rd V W (skT V p) g' ∧ Pk g g' := by
  have hmain : ∀ (k : Nat) (p : Int) (g : AMem), V 0 6 - p ≤ k → Rd V W p g → ∃ g', jM_skip_0 L g = some g' ∧ Rd V W (skT V p) g' ∧ Pk g g' := by
    intro k
    induction k with
    | zero =>
      intro p g hk hR
      refine ⟨g, ?_, ?_, Pk_r⟩
      · rw [jM_skip_0_eq, cM_here hR, bnd]
        dsimp only
        rw [if_neg (show ¬ p < V 0 6 by omega), if_pos (show (-201 : Int) ≠ 32 by omega)]
      · rw [skT_e, if_neg (by omega)]
        exact hR
    | succ k ih =>
      intro p g hk hR
      have hb := Rd_b hR
      have hr6 := hR.2.2.2.2.2
      rw [skT_e]
      by_cases q : p < V 0 6 ∧ V 5 p = 32
      · have hR2 : Rd V W (p + 1) (up g 137 25 (p + 1)) := Rd_k hR (Pk_u Pk_r (Or.inl rfl)) up_s (by have := hR.2.2.2.2.1; omega) (by omega)
        obtain ⟨g', a1, a2, a3⟩ := ih (p + 1) (up g 137 25 (p + 1)) (by omega) hR2
        refine ⟨g', ?_, ?_, Pk_t (Pk_u Pk_r (Or.inl rfl)) a3⟩
        · rw [jM_skip_0_eq, cM_here hR, bnd]
          dsimp only
          rw [if_pos q.1, if_neg (show ¬ V 5 p ≠ 32 by omega), hR.2.2.2.1, iw_n (by have := hR.2.2.2.2.1; omega) (by omega)]
          exact a1
        · rw [if_pos q]
          exact a2
      · refine ⟨g, ?_, ?_, Pk_r⟩
        · rw [jM_skip_0_eq, cM_here hR, bnd]
          dsimp only
          by_cases q2 : p < V 0 6
          · rw [if_pos q2, if_pos (fun q3 => q ⟨q2, q3⟩)]
          · rw [if_neg q2, if_pos (show (-201 : Int) ≠ 32 by omega)]
        · rw [if_neg q]
          exact hR
  exact hmain (V 0 6 - p).toNat p g (by omega) hR
theorem cM_isFigure : jM_isFigure L c g = some (if isF c = true then 1 else 0, g) := by
  rw [jM_isFigure_eq, cM_in, bnd]
  simp only [b2b, if_true]
  by_cases q : 48 ≤ c ∧ c ≤ 57
  · rw [if_pos q, if_pos (isF_i.mpr q)]
  · rw [if_neg q, if_neg (fun h => q (isF_i.mp h))]
theorem cM_figures (hR : Rd V W p g) (hq0 : 0 ≤ q) (hq1 : q ≤ V 0 6) : jM_figures L q g = some (fgT V q, g) := by
  have hb := Rd_b hR
  rw [jM_figures_eq]
  have hmain : ∀ (k : Nat) (i : Int), 0 ≤ i → q + i ≤ V 0 6 → V 0 6 - (q + i) ≤ k → jM_figures_2 L q i g = some (i + fgT V (q + i), g) := by
    intro k
    induction k with
    | zero =>
      intro i i0 i1 hk
      rw [jM_figures_2_eq, hb.2.1, iw_n (by omega) (by omega), if_pos (by omega), fgT_e, if_neg (by omega)]
      simp
    | succ k ih =>
      intro i i0 i1 hk
      rw [jM_figures_2_eq, hb.2.1, iw_n (show 0 ≤ q + i by omega) (by omega), fgT_e]
      by_cases h1 : V 0 6 ≤ q + i
      · rw [if_pos h1, if_neg (by omega)]
        simp
      · have hc := hb.2.2 (q + i) (by omega) (by omega)
        rw [if_neg h1, if_pos (by omega), hc.1, cM_isFigure, bnd]
        dsimp only
        rw [ifz, iw_n (by omega) (by omega)]
        by_cases h2 : isF (V 5 (q + i)) = true
        · rw [if_pos h2, if_pos ⟨by omega, h2⟩, ih (i + 1) (by omega) (by omega) (by omega), show q + (i + 1) = q + i + 1 by omega, show i + 1 + fgT V (q + i + 1) = i + (fgT V (q + i + 1) + 1) by omega]
        · rw [if_neg h2, if_neg (fun h3 => h2 h3.2)]
          simp
  have := hmain (V 0 6 - q).toNat 0 (by omega) (by omega) (by omega)
  rw [show q + 0 = q by omega, show 0 + fgT V q = fgT V q by omega] at this
  exact this
theorem cM_num19 (hR : Rd V W p g) : ∃ g', jM_number_19 L lo hi (fgT V p) 0 0 g = some (if numB V p lo hi = true then 1 else 0, g') ∧ Pk g g' ∧ g' 137 25 = (if numB V p lo hi = true then p + fgT V p else p) ∧ (numB V p lo hi = true → g' 137 26 = numV V p) := by
  have hb := Rd_b hR
  obtain ⟨r1, r2, r3, r4, r5, r6⟩ := hR
  have hf := fgT_b (V := V) (p := p)
  have hf2 := hf.2 r6
  have fin : ∀ v, (1 ≤ fgT V p ∧ fgT V p ≤ 3 → v = numV V p) → ∃ g', ((jM_in L (fgT V p) 1 3 g).bind (fun q4 => if q4.1 = 0 then (some ((0 : Int), q4.2)) else ((jM_in L v lo hi q4.2).bind (fun q6 => if q6.1 ≠ 0 then (some ((1 : Int), up (up q6.2 137 26 v) 137 25 (iw (((up q6.2 137 26 v) 137 25) + fgT V p)))) else (some (0, q6.2)))))) = some (if numB V p lo hi = true then 1 else 0, g') ∧ Pk g g' ∧ g' 137 25 = (if numB V p lo hi = true then p + fgT V p else p) ∧ (numB V p lo hi = true → g' 137 26 = numV V p) := by
    intro v hv
    rw [cM_in, bnd]
    dsimp only
    rw [ifz]
    by_cases h1 : 1 ≤ fgT V p ∧ fgT V p ≤ 3
    · rw [if_pos h1, cM_in, bnd]
      dsimp only
      rw [ifn, hv h1]
      by_cases h2 : lo ≤ numV V p ∧ numV V p ≤ hi
      · have hB : numB V p lo hi = true := numB_i.mpr ⟨h1.1, h1.2, h2.1, h2.2⟩
        rw [if_pos h2, hB, if_pos rfl, if_pos rfl, up_n (by omega), r4, iw_n (by omega) (by omega)]
        exact ⟨_, rfl, Pk_u (Pk_u Pk_r (Or.inr rfl)) (Or.inl rfl), up_s, fun _ => by rw [up_n (by omega), up_s]⟩
      · have hB : ¬ numB V p lo hi = true := fun h => h2 (numB_i.mp h).2.2
        rw [if_neg h2, if_neg hB, if_neg hB]
        exact ⟨g, rfl, Pk_r, r4, fun h => absurd h hB⟩
    · have hB : ¬ numB V p lo hi = true := fun h => h1 ⟨(numB_i.mp h).1, (numB_i.mp h).2.1⟩
      rw [if_neg h1, if_neg hB, if_neg hB]
      exact ⟨g, rfl, Pk_r, r4, fun h => absurd h hB⟩
  have hm : ∃ m, m = (if fgT V p ≤ 3 then fgT V p else 3) := ⟨_, rfl⟩
  obtain ⟨m, hm⟩ := hm
  have hm1 : 0 ≤ m ∧ m ≤ 3 ∧ m ≤ fgT V p ∧ (fgT V p ≤ 3 → m = fgT V p) ∧ (3 < fgT V p → m = 3) := by
    rw [hm]
    split <;> omega
  refine lp (F := fun i => jM_number_19 L lo hi (fgT V p) (nvT V p i.toNat) i g) (R := jM_number_19 L lo hi (fgT V p) (nvT V p m.toNat) m g) (n := m) ?_ rfl 0 (Int.le_refl _) hm1.1 ▸ ?_
  · intro i h2 h3 ih
    have hd := fgT_d (V := V) (p := p) (j := i) h2 (by omega)
    have hv := nvT_b (V := V) (p := p) (k := i.toNat) (by omega) (by omega)
    rw [nvT_s h2] at ih
    rw [jM_number_19_eq, if_neg (by omega), if_neg (by omega), r4, iw_n (show 0 ≤ p + i by omega) (by omega), if_pos (by omega), (hb.2.2 (p + i) (by omega) hd.1).1, iw_n (show 0 ≤ 10 * nvT V p i.toNat by omega) (by omega), iw_n (show 0 ≤ 10 * nvT V p i.toNat + V 5 (p + i) by omega) (by omega), iw_n (show 0 ≤ 10 * nvT V p i.toNat + V 5 (p + i) - 48 by omega) (by omega), iw_n (show 0 ≤ i + 1 by omega) (by omega)]
    exact ih
  · rw [jM_number_19_eq]
    by_cases h3 : fgT V p ≤ m
    · rw [if_pos h3]
      refine fin _ (fun _ => ?_)
      unfold numV
      rw [show m = fgT V p by omega]
    · rw [if_neg h3, if_pos (by omega)]
      exact fin _ (fun h => by omega)
theorem cM_number (hR : Rd V W p g) : ∃ g', jM_number L lo hi g = some (if numB V (skT V p) lo hi = true then 1 else 0, g') ∧ Pk g g' ∧ Rd V W (if numB V (skT V p) lo hi = true then skT V p + fgT V (skT V p) else skT V p) g' ∧ (numB V (skT V p) lo hi = true → g' 137 26 = numV V (skT V p)) := by
  obtain ⟨g1, a1, a2, a3⟩ := cM_skip (L := L) hR
  obtain ⟨g2, b1, b2, b3, b4⟩ := cM_num19 (L := L) (lo := lo) (hi := hi) a2
  have hs := skT_b (V := V) hR.2.2.2.2.2
  have hf := fgT_b (V := V) (p := skT V p)
  have hr5 := hR.2.2.2.2.1
  refine ⟨g2, ?_, Pk_t a3 b2, Rd_k a2 b2 b3 ?_ ?_, b4⟩
  · rw [jM_number_eq, a1, bnd, a2.2.2.2.1, cM_figures a2 (by omega) hs.2, bnd]
    exact b1
  · split <;> omega
  · split
    · exact hf.2 hs.2
    · exact hs.2
end RDR
