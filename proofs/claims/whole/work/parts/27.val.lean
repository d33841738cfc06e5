/-! how calls change the document's state -/
def nbV (V : AMem) : AMem := fun a k => if a = 1 ∧ k = V 0 0 then 0 else if a = 0 ∧ k = 0 then V 0 0 + 1 else V a k
def npV (V : AMem) (b r : Int) : AMem := fun a k => if (a = 10 + b ∨ (20 ≤ a ∧ a < 20 + V 0 1 ∧ V 3 (a - 20) = b)) ∧ k = V 1 b then r else if a = 1 ∧ k = b then V 1 b + 1 else V a k
def neV (V : AMem) (f t w : Int) : AMem := fun a k => if a = 2 ∧ k = V 0 1 then f else if a = 3 ∧ k = V 0 1 then t else if a = 4 ∧ k = V 0 1 then w else if a = 20 + V 0 1 ∧ 0 ≤ k ∧ k < V 1 t then V (10 + t) k else if a = 0 ∧ k = 1 then V 0 1 + 1 else V a k
theorem shB_c {a c : Int} : shB a c = shB c a := by
  unfold shB
  rw [Bool.eq_iff_iff]
  simp only [decide_eq_true_eq]
  omega
section VAL
variable {V : AMem} {a b e f i k r t w : Int}
theorem nb_0 : nbV V 0 0 = V 0 0 + 1 := by simp [nbV]
theorem nb_1 : nbV V 1 (V 0 0) = 0 := by simp [nbV]
theorem nb_n (h : ¬ (a = 1 ∧ k = V 0 0)) (h2 : ¬ (a = 0 ∧ k = 0)) : nbV V a k = V a k := by
  unfold nbV
  rw [if_neg h, if_neg h2]
theorem VaV_nb (hV : VaV V) (h : V 0 0 < 10) : VaV (nbV V) := by
  obtain ⟨h0, h1, h2, h3, h4, h5, h6⟩ := hV
  refine ⟨by rw [nb_0]; omega, by rw [nb_n (by omega) (by omega)]; exact h1, by rw [nb_n (by omega) (by omega)]; exact h2, by rw [nb_n (by omega) (by omega)]; exact h3, ?_, ?_, ?_⟩
  · intro b hb0 hb1
    rw [nb_0] at hb1
    by_cases q : b = V 0 0
    · rw [q, nb_1]
      exact ⟨by omega, fun i hi0 hi1 => by omega, fun i j hi0 hi1 hi2 => by omega⟩
    · rw [nb_n (show ¬ ((1 : Int) = 1 ∧ b = V 0 0) by omega) (by omega)]
      have hB := h4 b hb0 (by omega)
      refine ⟨hB.1, fun i hi0 hi1 => ?_, fun i j hi0 hi1 hi2 => ?_⟩
      · rw [nb_n (by omega) (by omega)]
        exact hB.2.1 i hi0 hi1
      · rw [nb_n (by omega) (by omega), nb_n (by omega) (by omega)]
        exact hB.2.2 i j hi0 hi1 hi2
  · intro e he0 he1
    rw [nb_n (by omega) (by omega)] at he1
    have hE := h5 e he0 he1
    rw [nb_n (show ¬ ((2 : Int) = 1 ∧ e = V 0 0) by omega) (by omega), nb_n (show ¬ ((3 : Int) = 1 ∧ e = V 0 0) by omega) (by omega), nb_n (show ¬ ((4 : Int) = 1 ∧ e = V 0 0) by omega) (by omega), nb_0]
    refine ⟨by omega, by omega, hE.2.2.1, fun i hi0 hi1 => ?_⟩
    rw [nb_n (by omega) (by omega)] at hi1
    rw [nb_n (by omega) (by omega), nb_n (by omega) (by omega)]
    exact hE.2.2.2 i hi0 hi1
  · intro i hi0 hi1
    rw [nb_n (by omega) (by omega)] at hi1
    rw [nb_n (by omega) (by omega)]
    exact h6 i hi0 hi1
theorem np_r (h : a = 10 + b ∨ (20 ≤ a ∧ a < 20 + V 0 1 ∧ V 3 (a - 20) = b)) : npV V b r a (V 1 b) = r := by
  unfold npV
  rw [if_pos ⟨h, rfl⟩]
theorem np_1 (h : 0 ≤ b) : npV V b r 1 b = V 1 b + 1 := by
  unfold npV
  rw [if_neg (by omega), if_pos (by omega)]
theorem np_n (h : a < 10 ∨ k ≠ V 1 b) (h2 : ¬ (a = 1 ∧ k = b)) (h3 : 0 ≤ b) : npV V b r a k = V a k := by
  unfold npV
  rw [if_neg (by omega), if_neg h2]
theorem np_b (h : a < 20) (h2 : a ≠ 1) (h3 : a ≠ 10 + b) : npV V b r a k = V a k := by
  unfold npV
  rw [if_neg (by omega), if_neg (by omega)]
theorem np_e (h : 20 ≤ a) (h2 : a < 20 + V 0 1) (h3 : V 3 (a - 20) ≠ b) (h4 : b < 10): npV V b r a k = V a k := by
  unfold npV
  rw [if_neg (by omega), if_neg (by omega)]
theorem VaV_np (hV : VaV V) (hb0 : 0 ≤ b) (hb1 : b < V 0 0) (hn : V 1 b < 6) (hr : isRg r = true) (hf : ∀ i, 0 ≤ i → i < V 1 b → shB (V (10 + b) i) r = false) : VaV (npV V b r) := by
  obtain ⟨h0, h1, h2, h3, h4, h5, h6⟩ := hV
  have hm := (h4 b hb0 hb1).1
  refine ⟨by rw [np_b (by omega) (by omega) (by omega)]; exact h0, by rw [np_b (by omega) (by omega) (by omega)]; exact h1, by rw [np_b (by omega) (by omega) (by omega)]; exact h2, by rw [np_b (by omega) (by omega) (by omega)]; exact h3, ?_, ?_, ?_⟩
  · intro c hc0 hc1
    rw [np_b (by omega) (by omega) (by omega)] at hc1
    have hB := h4 c hc0 hc1
    by_cases q : c = b
    · subst q
      rw [np_1 hc0]
      refine ⟨by omega, fun i hi0 hi1 => ?_, fun i j hi0 hi1 hi2 => ?_⟩
      · by_cases q : i = V 1 c
        · rw [q, np_r (Or.inl rfl)]
          exact hr
        · rw [np_n (by omega) (by omega) hb0]
          exact hB.2.1 i hi0 (by omega)
      · rw [np_n (a := 10 + c) (k := i) (by omega) (by omega) hb0]
        by_cases q : j = V 1 c
        · rw [q, np_r (Or.inl rfl)]
          exact hf i hi0 (by omega)
        · rw [np_n (by omega) (by omega) hb0]
          exact hB.2.2 i j hi0 hi1 (by omega)
    · rw [np_n (a := 1) (k := c) (by omega) (by omega) hb0]
      refine ⟨hB.1, fun i hi0 hi1 => ?_, fun i j hi0 hi1 hi2 => ?_⟩
      · rw [np_b (by omega) (by omega) (by omega)]
        exact hB.2.1 i hi0 hi1
      · rw [np_b (by omega) (by omega) (by omega), np_b (by omega) (by omega) (by omega)]
        exact hB.2.2 i j hi0 hi1 hi2
  · intro e he0 he1
    rw [np_b (by omega) (by omega) (by omega)] at he1
    have hE := h5 e he0 he1
    rw [np_b (a := 2) (by omega) (by omega) (by omega), np_b (a := 3) (by omega) (by omega) (by omega), np_b (a := 4) (by omega) (by omega) (by omega), np_b (a := 0) (by omega) (by omega) (by omega)]
    refine ⟨hE.1, hE.2.1, hE.2.2.1, fun i hi0 hi1 => ?_⟩
    by_cases q : V 3 e = b
    · rw [q] at hi1 ⊢
      rw [np_1 hb0] at hi1
      by_cases q2 : i = V 1 b
      · rw [q2, np_r (Or.inl rfl), np_r (Or.inr ⟨by omega, by omega, by rw [show 20 + e - 20 = e by omega]; exact q⟩)]
        exact Or.inr ⟨hr, rfl⟩
      · rw [np_n (by omega) (by omega) hb0, np_n (by omega) (by omega) hb0]
        have := hE.2.2.2 i hi0 (by rw [q]; omega)
        rw [q] at this
        exact this
    · rw [np_n (a := 1) (by omega) (by omega) hb0] at hi1
      rw [np_b (a := 10 + V 3 e) (by omega) (by omega) (by omega), np_e (by omega) (by omega) (by rw [show 20 + e - 20 = e by omega]; exact q) (by omega)]
      exact hE.2.2.2 i hi0 hi1
  · intro i hi0 hi1
    rw [np_b (by omega) (by omega) (by omega)] at hi1
    rw [np_b (by omega) (by omega) (by omega)]
    exact h6 i hi0 hi1
theorem ne_2 : neV V f t w 2 (V 0 1) = f := by simp [neV]
theorem ne_3 : neV V f t w 3 (V 0 1) = t := by simp [neV]
theorem ne_4 : neV V f t w 4 (V 0 1) = w := by simp [neV]
theorem ne_0 (h : 0 ≤ V 0 1) : neV V f t w 0 1 = V 0 1 + 1 := by
  unfold neV
  rw [if_neg (by omega), if_neg (by omega), if_neg (by omega), if_neg (by omega), if_pos (by omega)]
theorem ne_a (h : 0 ≤ V 0 1) (h1 : 0 ≤ k) (h2 : k < V 1 t) : neV V f t w (20 + V 0 1) k = V (10 + t) k := by
  unfold neV
  rw [if_neg (by omega), if_neg (by omega), if_neg (by omega), if_pos (by omega)]
theorem ne_n (h : ¬ (a = 0 ∧ k = 1)) (h2 : ¬ ((a = 2 ∨ a = 3 ∨ a = 4) ∧ k = V 0 1)) (h3 : a ≠ 20 + V 0 1) : neV V f t w a k = V a k := by
  unfold neV
  rw [if_neg (by omega), if_neg (by omega), if_neg (by omega), if_neg (by omega), if_neg (by omega)]
theorem VaV_ne (hV : VaV V) (hf0 : 0 ≤ f) (hf1 : f < V 0 0) (ht0 : 0 ≤ t) (ht1 : t < V 0 0) (hw0 : 0 ≤ w) (hw1 : w ≤ 99) (hn : V 0 1 < 16) : VaV (neV V f t w) := by
  obtain ⟨h0, h1, h2, h3, h4, h5, h6⟩ := hV
  refine ⟨by rw [ne_n (by omega) (by omega) (by omega)]; exact h0, by rw [ne_0 h1.1]; omega, by rw [ne_n (by omega) (by omega) (by omega)]; exact h2, by rw [ne_n (by omega) (by omega) (by omega)]; exact h3, ?_, ?_, ?_⟩
  · intro b hb0 hb1
    rw [ne_n (by omega) (by omega) (by omega)] at hb1
    have hB := h4 b hb0 hb1
    rw [ne_n (a := 1) (by omega) (by omega) (by omega)]
    refine ⟨hB.1, fun i hi0 hi1 => ?_, fun i j hi0 hi1 hi2 => ?_⟩
    · rw [ne_n (by omega) (by omega) (by omega)]
      exact hB.2.1 i hi0 hi1
    · rw [ne_n (by omega) (by omega) (by omega), ne_n (by omega) (by omega) (by omega)]
      exact hB.2.2 i j hi0 hi1 hi2
  · intro e he0 he1
    rw [ne_0 h1.1] at he1
    rw [ne_n (a := 0) (k := 0) (by omega) (by omega) (by omega)]
    by_cases q : e = V 0 1
    · rw [q, ne_2, ne_3, ne_4]
      refine ⟨⟨hf0, hf1⟩, ⟨ht0, ht1⟩, ⟨hw0, hw1⟩, fun i hi0 hi1 => ?_⟩
      rw [ne_n (a := 1) (by omega) (by omega) (by omega)] at hi1
      rw [ne_a h1.1 hi0 hi1, ne_n (by omega) (by omega) (by omega)]
      exact Or.inr ⟨(h4 t ht0 ht1).2.1 i hi0 hi1, rfl⟩
    · have hE := h5 e he0 (by omega)
      rw [ne_n (a := 2) (by omega) (by omega) (by omega), ne_n (a := 3) (by omega) (by omega) (by omega), ne_n (a := 4) (by omega) (by omega) (by omega)]
      refine ⟨hE.1, hE.2.1, hE.2.2.1, fun i hi0 hi1 => ?_⟩
      rw [ne_n (a := 1) (by omega) (by omega) (by omega)] at hi1
      rw [ne_n (by omega) (by omega) (by omega), ne_n (by omega) (by omega) (by omega)]
      exact hE.2.2.2 i hi0 hi1
  · intro i hi0 hi1
    rw [ne_n (by omega) (by omega) (by omega)] at hi1
    rw [ne_n (by omega) (by omega) (by omega)]
    exact h6 i hi0 hi1
theorem VaV_up (hV : VaV V) (he0 : 0 ≤ e) (hi0 : 0 ≤ i) (ho : okA w (V (10 + V 3 e) i)) : VaV (up V (20 + e) i w) := by
  obtain ⟨h0, h1, h2, h3, h4, h5, h6⟩ := hV
  have n : ∀ a k, a < 20 → up V (20 + e) i w a k = V a k := fun a k h => up_n (by omega)
  refine ⟨by rw [n _ _ (by omega)]; exact h0, by rw [n _ _ (by omega)]; exact h1, by rw [n _ _ (by omega)]; exact h2, by rw [n _ _ (by omega)]; exact h3, ?_, ?_, ?_⟩
  · intro b hb0 hb1
    rw [n _ _ (by omega)] at hb1
    have hB := h4 b hb0 hb1
    rw [n 1 _ (by omega)]
    refine ⟨hB.1, fun i hi0 hi1 => ?_, fun i j hi0 hi1 hi2 => ?_⟩
    · rw [n _ _ (by omega)]
      exact hB.2.1 i hi0 hi1
    · rw [n _ _ (by omega), n _ _ (by omega)]
      exact hB.2.2 i j hi0 hi1 hi2
  · intro c hc0 hc1
    rw [n _ _ (by omega)] at hc1
    have hE := h5 c hc0 hc1
    rw [n 2 _ (by omega), n 3 _ (by omega), n 4 _ (by omega), n 0 _ (by omega), n 1 _ (by omega)]
    refine ⟨hE.1, hE.2.1, hE.2.2.1, fun j hj0 hj1 => ?_⟩
    rw [n (10 + V 3 c) _ (by omega)]
    by_cases q : c = e ∧ j = i
    · obtain ⟨rfl, rfl⟩ := q
      rw [up_s]
      exact ho
    · rw [up_n (by omega)]
      exact hE.2.2.2 j hj0 hj1
  · intro j hj0 hj1
    rw [n _ _ (by omega)] at hj1
    rw [n _ _ (by omega)]
    exact h6 j hj0 hj1
theorem VaV_0 (hV : VaV V) (h : k = 3 ∨ k = 4 ∨ k = 5) : VaV (up V 0 k w) := by
  have n : ∀ a j, a ≠ 0 ∨ j < 3 ∨ 5 < j → up V 0 k w a j = V a j := fun a j h => up_n (by omega)
  obtain ⟨h0, h1, h2, h3, h4, h5, h6⟩ := hV
  refine ⟨by rw [n _ _ (by omega)]; exact h0, by rw [n _ _ (by omega)]; exact h1, by rw [n _ _ (by omega)]; exact h2, by rw [n _ _ (by omega)]; exact h3, ?_, ?_, ?_⟩
  · intro b hb0 hb1
    rw [n _ _ (by omega)] at hb1
    have hB := h4 b hb0 hb1
    rw [n 1 _ (by omega)]
    refine ⟨hB.1, fun i hi0 hi1 => ?_, fun i j hi0 hi1 hi2 => ?_⟩
    · rw [n _ _ (by omega)]
      exact hB.2.1 i hi0 hi1
    · rw [n _ _ (by omega), n _ _ (by omega)]
      exact hB.2.2 i j hi0 hi1 hi2
  · intro c hc0 hc1
    rw [n _ _ (by omega)] at hc1
    have hE := h5 c hc0 hc1
    rw [n 2 _ (by omega), n 3 _ (by omega), n 4 _ (by omega), n 0 0 (by omega), n 1 _ (by omega)]
    refine ⟨hE.1, hE.2.1, hE.2.2.1, fun j hj0 hj1 => ?_⟩
    rw [n (10 + V 3 c) _ (by omega), n (20 + c) _ (by omega)]
    exact hE.2.2.2 j hj0 hj1
  · intro j hj0 hj1
    rw [n _ _ (by omega)] at hj1
    rw [n _ _ (by omega)]
    exact h6 j hj0 hj1
end VAL
