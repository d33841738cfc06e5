/-! rings that change, and all steps of a plan but the settings -/
def pLp (V : AMem) (b kd : Int) : Nat → AMem → AMem
  | 0, W => W
  | k + 1, W => if opC W (V 1 b) = 0 then W else pLp V b kd k (pSt V W b kd)
section PCH
variable {V W : AMem} {b d f i j kd n p q r t x : Int}
theorem pC1_0 : pC1 V W b i 0 0 = W 0 0 + 1 := by
  unfold pC1
  rw [up_n (by omega), pA_0]
theorem pC1_4 : pC1 V W b i 4 j = if j = i then 0 else W 4 j := by
  unfold pC1
  by_cases h : j = i
  · rw [h, up_s, if_pos rfl]
  · rw [up_n (by omega), pA_4, if_neg h]
theorem pC1_5 : pC1 V W b i 5 j = W 5 j := by
  unfold pC1
  rw [up_n (by omega), pA_5]
theorem BI_c (hI : BI V W b) : BI V (up W 4 i 0) b := by
  obtain ⟨b1, b2, b3⟩ := hI
  refine ⟨by rw [up_n (by omega)]; exact b1, fun k k0 k1 k2 => ?_, fun k k0 k1 => ?_⟩
  · by_cases e : k = i
    · rw [e, up_s] at k2
      exact absurd rfl k2
    · rw [up_n (by omega)] at k2
      rw [up_n (by omega)]
      exact b2 k k0 k1 k2
  · rw [up_n (by omega)] at k1
    rw [up_n (by omega), up_n (by omega), up_n (by omega)]
    exact b3 k k0 k1
theorem BI_1 (hB : bOK V b) (hI : BI V W b) (h0 : 0 ≤ i) (h1 : i < V 1 b) (h2 : W 4 i ≠ 0) (j0 : 0 ≤ j) (j1 : j < V 1 b) (hj : W 5 i = V (10 + b) j) : BI V (pC1 V W b i) b := by
  obtain ⟨b1, b2, b3⟩ := hI
  have hbi := b2 i h0 h1 h2
  unfold pC1
  apply BI_c
  refine ⟨by rw [pA_0]; omega, fun k k0 k1 k2 => ?_, fun k k0 k1 => ?_⟩
  · rw [pA_4] at k2
    rw [pA_5]
    exact b2 k k0 k1 k2
  · rw [pA_0] at k1
    exact pAdd_stp b3 ⟨Or.inl (hB.2.1 i h0 h1), Or.inr ⟨Or.inr ⟨rfl, hB.2.1 i h0 h1, by rw [hj]; exact hB.2.1 j j0 j1⟩, hbi.2.1, hbi.2.2⟩⟩ k k0 k1
theorem fw_p (hB : bOK V b) (j0 : 0 ≤ j) (j1 : j < V 1 b) (hj : W 5 i = V (10 + b) j) : fwI V W b i = j := by
  unfold fwI
  rw [hj, whI_p hB j0 j1]
theorem pCh_l (hB : bOK V b) (s : Int → Int) (m : Int) (hr : ∀ k, 0 ≤ k → k ≤ m → 0 ≤ s k ∧ s k < V 1 b) (hd : ∀ k l, 0 ≤ k → k < l → l < m → s k ≠ s l) : ∀ (k : Nat) (t : Int) (W : AMem), 0 ≤ t → t + k + 1 = m → BI V W b → (∀ j, t ≤ j → j < m → W 4 (s j) ≠ 0 ∧ W 5 (s j) = V (10 + b) (s (j + 1))) → BI V (pCh V b k W (s t)) b ∧ pCh V b k W (s t) 0 0 = W 0 0 + k ∧ opC (pCh V b k W (s t)) (V 1 b) = opC W (V 1 b) - (k + 1)
  | 0, t, W, h0, h1, hI, h2 => by
    have ht := hr t h0 (by omega)
    have hc : opC (up W 4 (s t) 0) (V 1 b) = opC W (V 1 b) - 1 := opC_c ht.1 ht.2 (h2 t (by omega) (by omega)).1 up_s (fun j q => up_n (by omega))
    refine ⟨BI_c hI, ?_, ?_⟩
    · rw [pCh, up_n (by omega)]
      omega
    · rw [pCh, hc]
      omega
  | k + 1, t, W, h0, h1, hI, h2 => by
    have ht := hr t h0 (by omega)
    have ht1 := hr (t + 1) (by omega) (by omega)
    have ho := h2 t (by omega) (by omega)
    have hc : opC (pC1 V W b (s t)) (V 1 b) = opC W (V 1 b) - 1 := opC_c ht.1 ht.2 ho.1 (by rw [pC1_4, if_pos rfl]) (fun j q => by rw [pC1_4, if_neg q])
    have ih := pCh_l hB s m hr hd k (t + 1) (pC1 V W b (s t)) (by omega) (by omega) (BI_1 hB hI ht.1 ht.2 ho.1 ht1.1 ht1.2 ho.2) (fun j j0 j1 => by
      rw [pC1_4, pC1_5, if_neg (fun e => hd t j h0 (by omega) j1 e.symm)]
      exact h2 j (by omega) j1)
    rw [pCh, fw_p hB ht1.1 ht1.2 ho.2]
    refine ⟨ih.1, ?_, ?_⟩
    · rw [ih.2.1, pC1_0]
      omega
    · rw [ih.2.2, hc]
      omega
theorem rgW_l (hB : bOK V b) (s : Int → Int) (m : Int) (hr : ∀ k, 0 ≤ k → k ≤ m → 0 ≤ s k ∧ s k < V 1 b) (hd : ∀ k l, 0 ≤ k → k < l → l < m → s k ≠ s l) (h0 : s 0 = q) (hm : s m = q) (h5 : ∀ j, 0 ≤ j → j < m → W 5 (s j) = V (10 + b) (s (j + 1))) : ∀ (k : Nat) (t : Int), 1 ≤ t → t ≤ m → m < t + k → rgW V W b q k (s t) t = m
  | 0, t, h1, h2, h3 => by omega
  | k + 1, t, h1, h2, h3 => by
    rw [rgW]
    by_cases e : s t = q
    · rw [if_pos e]
      by_cases e2 : t = m
      · exact e2
      · exact absurd (by rw [h0, e]) (hd 0 t (by omega) (by omega) (by omega))
    · rw [if_neg e]
      have e2 : t ≠ m := fun e2 => e (by rw [e2, hm])
      have ht1 := hr (t + 1) (by omega) (by omega)
      rw [fw_p hB ht1.1 ht1.2 (h5 t (by omega) (by omega))]
      exact rgW_l hB s m hr hd h0 hm h5 k (t + 1) (by omega) (by omega) (by omega)
/-- a ring, its size, and how it is gone through -/
theorem rng (hB : bOK V b) (hI : BI V W b) (hs : stk V W b) (h0 : 0 ≤ q) (h1 : q < V 1 b) (h2 : W 4 q ≠ 0) : ∃ (m : Int) (s : Int → Int), 2 ≤ m ∧ m ≤ V 1 b ∧ s 0 = q ∧ s m = q ∧ (∀ k, 0 ≤ k → k ≤ m → 0 ≤ s k ∧ s k < V 1 b ∧ W 4 (s k) ≠ 0) ∧ (∀ k, 0 ≤ k → k < m → W 5 (s k) = V (10 + b) (s (k + 1))) ∧ (∀ k l, 0 ≤ k → k < l → l < m → s k ≠ s l) ∧ rgW V W b q 6 (fwI V W b q) 1 = m := by
  obtain ⟨m, s, m1, m2, m3, m4, m5, m6, m7⟩ := stk_r hB hs h0 h1 h2
  have hm : m ≠ 1 := by
    intro e
    have := m6 0 (by omega) (by omega)
    rw [m3, show (0 : Int) + 1 = m by omega, m4] at this
    exact (hI.2.1 q h0 h1 h2).1 this
  have hn := hB.1
  have ht1 := m5 1 (by omega) (by omega)
  have e1 := m6 0 (by omega) (by omega)
  rw [m3] at e1
  refine ⟨m, s, by omega, m2, m3, m4, m5, m6, m7, ?_⟩
  rw [fw_p hB ht1.1 ht1.2.1 e1]
  exact rgW_l hB s m (fun k k0 k1 => ⟨(m5 k k0 k1).1, (m5 k k0 k1).2.1⟩) m7 m3 m4 m6 6 1 (by omega) (by omega) (by omega)
theorem PI_br {D : Int} (hB : bOK V b) (hI : BI V W b) (hA : PhA V W b D) (hs : stk V W b) (h0 : 0 ≤ q) (h1 : q < V 1 b) (h2 : W 4 q ≠ 0) : PI V (pBr V W b kd q) b D ∧ W 0 0 < pBr V W b kd q 0 0 := by
  unfold pBr
  split
  · exact ⟨PI_sp hB hI hA hs h0 h1 h2, by rw [pS_0]; omega⟩
  · obtain ⟨m, s, m1, m2, m3, m4, m5, m6, m7, m8⟩ := rng hB hI hs h0 h1 h2
    have h := pCh_l hB s m (fun k k0 k1 => ⟨(m5 k k0 k1).1, (m5 k k0 k1).2.1⟩) m7 (m - 1).toNat 0 W (by omega) (by omega) hI (fun j j0 j1 => ⟨(m5 j j0 (by omega)).2.2, m6 j j0 j1⟩)
    rw [m3] at h
    rw [m8]
    unfold PhA at hA
    refine ⟨⟨h.1, Or.inl ?_⟩, ?_⟩
    · unfold PhA
      rw [h.2.1, h.2.2]
      omega
    · rw [h.2.1]
      omega
theorem opC_p {n : Int} (h : 0 < opC W n) : ∃ i, 0 ≤ i ∧ i < n ∧ W 4 i ≠ 0 := by
  obtain ⟨i, h0, h1, h2⟩ := cnB_p h
  exact ⟨i, h0, by omega, by simpa using h2⟩
theorem PI_st {D : Int} (hB : bOK V b) (hI : PI V W b D) (ho : 0 < opC W (V 1 b)) : PI V (pSt V W b kd) b D ∧ W 0 0 < pSt V W b kd 0 0 := by
  unfold pSt
  by_cases h : loI V W b true = -201
  · rw [if_pos h]
    obtain ⟨hs, hA⟩ := stk_f hB hI h
    obtain ⟨i, i0, i1, i2⟩ := opC_p ho
    have hq := loI_b (V := V) (W := W) (u := false) hB
    rcases hq with hq | hq
    · have := (loI_n hB hq i0 i1 i2).1
      cases this
    · exact PI_br hB hI.1 hA hs hq.1 hq.2.1 hq.2.2.1
  · rw [if_neg h]
    rcases loI_b (V := V) (W := W) (u := true) hB with hq | hq
    · exact absurd hq h
    · exact ⟨PI_mv hB hI ⟨hq.1, hq.2.1, hq.2.2.1, hq.2.2.2 rfl⟩, by rw [pM_0]; omega⟩
theorem opC_0 {n : Int} : 0 ≤ opC W n := cnB_b.1
theorem PI_m {D : Int} (hI : PI V W b D) : 2 * W 0 0 + 3 * opC W (V 1 b) + 2 * D ≤ 20 := by
  rcases hI.2 with h | h | h
  · unfold PhA at h
    omega
  · have := h.1
    omega
  · exact h.1
theorem PI_z {D : Int} (hI : PI V W b D) (h : opC W (V 1 b) = 0) : 2 * W 0 0 + 2 * D ≤ 18 := by
  have no : ∀ i, ¬ rdy V W b i := fun i q => by
    have := cnB_z h i q.1 (by have := q.2.1; have := q.1; omega)
    simp at this
    exact q.2.2.1 this
  rcases hI.2 with q | q | q
  · unfold PhA at q
    omega
  · obtain ⟨i, q⟩ := q.2
    exact absurd q (no i)
  · obtain ⟨i, q, -⟩ := q.2
    exact absurd q (no i)
theorem pLp_l {D : Int} (hB : bOK V b) (hD : 0 ≤ D) : ∀ (k : Nat) (W : AMem), PI V W b D → 10 ≤ W 0 0 + k → PI V (pLp V b kd k W) b D ∧ opC (pLp V b kd k W) (V 1 b) = 0
  | 0, W, hI, h => by
    have := PI_m hI
    have := opC_0 (W := W) (n := V 1 b)
    rw [pLp]
    exact ⟨hI, by omega⟩
  | k + 1, W, hI, h => by
    rw [pLp]
    by_cases e : opC W (V 1 b) = 0
    · rw [if_pos e]
      exact ⟨hI, e⟩
    · rw [if_neg e]
      have := opC_0 (W := W) (n := V 1 b)
      have hst := PI_st (kd := kd) hB hI (by omega)
      exact pLp_l hB hD k _ hst.1 (by omega)
end PCH
