/-! when none is free: rings -/
def bOK (V : AMem) (b : Int) : Prop := (0 ≤ V 1 b ∧ V 1 b ≤ 6) ∧ (∀ i, 0 ≤ i → i < V 1 b → isRg (V (10 + b) i) = true) ∧ ∀ i j, 0 ≤ i → i < j → j < V 1 b → shB (V (10 + b) i) (V (10 + b) j) = false
theorem shB_r {r : Int} (h : isRg r = true) : shB r r = true := by
  unfold isRg at h
  simp only [decide_eq_true_eq] at h
  unfold shB
  simp only [decide_eq_true_eq]
  omega
section STK
variable {V W : AMem} {b d i j k q r : Int}
theorem bOK_d (hB : bOK V b) (h0 : 0 ≤ i) (h1 : i < V 1 b) (h2 : 0 ≤ j) (h3 : j < V 1 b) (he : V (10 + b) i = V (10 + b) j) : i = j := by
  rcases Int.lt_trichotomy i j with h | h | h
  · have := hB.2.2 i j h0 h h3
    rw [he, shB_r (hB.2.1 j h2 h3)] at this
    cases this
  · exact h
  · have := hB.2.2 j i h2 h h1
    rw [he, shB_r (hB.2.1 j h2 h3)] at this
    cases this
theorem bOK_o (hB : bOK V b) (h0 : 0 ≤ i) (h1 : i < V 1 b) (h2 : 0 ≤ j) (h3 : j < V 1 b) : V (10 + b) i < V (10 + b) j ↔ V (10 + b) i / 10 < V (10 + b) j / 10 := by
  by_cases he : i = j
  · rw [he]
    omega
  · have hs : shB (V (10 + b) i) (V (10 + b) j) = false := by
      rcases Int.lt_trichotomy i j with h | h | h
      · exact hB.2.2 i j h0 h h3
      · exact absurd h he
      · rw [shB_c]
        exact hB.2.2 j i h2 h h1
    have r1 := hB.2.1 i h0 h1
    have r2 := hB.2.1 j h2 h3
    unfold isRg at r1 r2
    unfold shB at hs
    simp only [decide_eq_true_eq, decide_eq_false_iff_not] at r1 r2 hs
    omega
theorem whI_p (hB : bOK V b) (h0 : 0 ≤ j) (h1 : j < V 1 b) : whI V b (V 1 b) (V (10 + b) j) d = j := by
  unfold whI
  rcases whK_b (d := d) (hit := fun i => decide (V (10 + b) i = V (10 + b) j)) (k := (V 1 b).toNat) with h | h
  · have := h.2 j h0 (by omega)
    simp at this
  · have h2 := h.2.2
    simp only [decide_eq_true_eq] at h2
    exact bOK_d hB h.1 (by have := h.2.1; omega) h0 h1 h2
theorem wnB_t {n : Int} : wnB W n r = true ↔ ∃ i, 0 ≤ i ∧ i < n ∧ W 4 i ≠ 0 ∧ W 5 i = r := by
  unfold wnB
  rw [anB_t]
  constructor
  · rintro ⟨i, h0, h1, h2⟩
    simp only [Bool.and_eq_true, decide_eq_true_eq] at h2
    exact ⟨i, h0, by omega, h2.1, h2.2⟩
  · rintro ⟨i, h0, h1, h2, h3⟩
    exact ⟨i, h0, by omega, by simp [h2, h3]⟩
def stk (V W : AMem) (b : Int) : Prop := ∀ j, 0 ≤ j → j < V 1 b → W 4 j ≠ 0 → wnB W (V 1 b) (V (10 + b) j) = true
theorem stk_1 (hB : bOK V b) (hs : stk V W b) : (∀ i, 0 ≤ i → i < V 1 b → W 4 i ≠ 0 → ∃ j, 0 ≤ j ∧ j < V 1 b ∧ W 4 j ≠ 0 ∧ W 5 i = V (10 + b) j) ∧ ∀ i j, 0 ≤ i → i < V 1 b → W 4 i ≠ 0 → 0 ≤ j → j < V 1 b → W 4 j ≠ 0 → W 5 i = W 5 j → i = j := by
  have hw : ∀ j : Nat, j < (V 1 b).toNat → W 4 j ≠ 0 → ∃ i : Nat, i < (V 1 b).toNat ∧ W 4 i ≠ 0 ∧ W 5 i = V (10 + b) j := by
    intro j h1 h2
    obtain ⟨i, q0, q1, q2, q3⟩ := wnB_t.mp (hs j (by omega) (by omega) h2)
    refine ⟨i.toNat, by omega, ?_, ?_⟩
    · rw [show ((i.toNat : Nat) : Int) = i by omega]
      exact q2
    · rw [show ((i.toNat : Nat) : Int) = i by omega]
      exact q3
  have hw2 : ∀ j : Nat, ∃ i : Nat, (j < (V 1 b).toNat ∧ W 4 j ≠ 0) → (i < (V 1 b).toNat ∧ W 4 i ≠ 0 ∧ W 5 i = V (10 + b) j) := by
    intro j
    by_cases h : j < (V 1 b).toNat ∧ W 4 j ≠ 0
    · obtain ⟨i, q⟩ := hw j h.1 h.2
      exact ⟨i, fun _ => q⟩
    · exact ⟨0, fun q => absurd q h⟩
  obtain ⟨c, hc2⟩ := Classical.axiomOfChoice hw2
  have hc : ∀ j : Nat, j < (V 1 b).toNat → W 4 j ≠ 0 → (c j < (V 1 b).toNat ∧ W 4 (c j) ≠ 0 ∧ W 5 (c j) = V (10 + b) j) := fun j q1 q2 => hc2 j ⟨q1, q2⟩
  have hsur := pigS (V 1 b).toNat (fun j => W 4 j ≠ 0) c (fun j h1 h2 => ⟨(hc j h1 h2).1, (hc j h1 h2).2.1⟩) (fun j k h1 h2 h3 h4 h5 => by
    have e1 := (hc j h1 h3).2.2
    have e2 := (hc k h2 h4).2.2
    rw [h5] at e1
    have := bOK_d hB (i := j) (j := k) (by omega) (by omega) (by omega) (by omega) (by rw [← e1, ← e2])
    omega)
  have hex : ∀ i, 0 ≤ i → i < V 1 b → W 4 i ≠ 0 → ∃ j : Nat, j < (V 1 b).toNat ∧ W 4 j ≠ 0 ∧ (c j : Int) = i ∧ W 5 i = V (10 + b) j := by
    intro i h0 h1 h2
    have e : ((i.toNat : Nat) : Int) = i := by omega
    obtain ⟨j, q1, q2, q3⟩ := hsur i.toNat (by omega) (by rw [e]; exact h2)
    have q4 : (c j : Int) = i := by rw [q3]; exact e
    refine ⟨j, q1, q2, q4, ?_⟩
    have := (hc j q1 q2).2.2
    rw [q4] at this
    exact this
  constructor
  · intro i h0 h1 h2
    obtain ⟨j, q1, q2, q3, q4⟩ := hex i h0 h1 h2
    exact ⟨j, by omega, by omega, q2, q4⟩
  · intro i i' h0 h1 h2 h3 h4 h5 h6
    obtain ⟨j, q1, q2, q3, q4⟩ := hex i h0 h1 h2
    obtain ⟨j', p1, p2, p3, p4⟩ := hex i' h3 h4 h5
    have := bOK_d hB (i := j) (j := j') (by omega) (by omega) (by omega) (by omega) (by rw [← q4, ← p4, h6])
    have e : j = j' := by omega
    rw [← q3, ← p3, e]
/-- the ring of one that is open -/
theorem stk_r (hB : bOK V b) (hs : stk V W b) (h0 : 0 ≤ q) (h1 : q < V 1 b) (h2 : W 4 q ≠ 0) : ∃ (m : Int) (s : Int → Int), 1 ≤ m ∧ m ≤ V 1 b ∧ s 0 = q ∧ s m = q ∧ (∀ k, 0 ≤ k → k ≤ m → 0 ≤ s k ∧ s k < V 1 b ∧ W 4 (s k) ≠ 0) ∧ (∀ k, 0 ≤ k → k < m → W 5 (s k) = V (10 + b) (s (k + 1))) ∧ ∀ k l, 0 ≤ k → k < l → l < m → s k ≠ s l := by
  obtain ⟨t1, t2⟩ := stk_1 hB hs
  have hf : ∀ j : Nat, j < (V 1 b).toNat → W 4 j ≠ 0 → ∃ k : Nat, k < (V 1 b).toNat ∧ W 4 k ≠ 0 ∧ W 5 j = V (10 + b) k ∧ (whI V b (V 1 b) (W 5 j) (-201)).toNat = k := by
    intro j q1 q2
    obtain ⟨k, k0, k1, k2, k3⟩ := t1 j (by omega) (by omega) q2
    have e : ((k.toNat : Nat) : Int) = k := by omega
    refine ⟨k.toNat, by omega, by rw [e]; exact k2, by rw [e]; exact k3, ?_⟩
    rw [k3, whI_p hB k0 k1]
  have eq : ((q.toNat : Nat) : Int) = q := by omega
  obtain ⟨m, m1, m2, m3, m4, m5⟩ := orb (V 1 b).toNat (fun j => W 4 j ≠ 0) (fun j => (whI V b (V 1 b) (W 5 j) (-201)).toNat) (fun j q1 q2 => by
    obtain ⟨k, k1, k2, k3, k4⟩ := hf j q1 q2
    rw [k4]
    exact ⟨k1, k2⟩) (fun j j' q1 q2 q3 q4 q5 => by
    obtain ⟨k, k1, k2, k3, k4⟩ := hf j q1 q3
    obtain ⟨k', p1, p2, p3, p4⟩ := hf j' q2 q4
    rw [k4, p4] at q5
    have := t2 j j' (by omega) (by omega) q3 (by omega) (by omega) q4 (by rw [k3, p3, q5])
    omega) q.toNat (by omega) (by rw [eq]; exact h2)
  refine ⟨m, fun k => (itr (fun j => (whI V b (V 1 b) (W 5 j) (-201)).toNat) k.toNat q.toNat : Nat), by omega, by omega, ?_, ?_, fun k k0 k1 => ?_, fun k k0 k1 => ?_, fun k l k0 k1 k2 => ?_⟩
  · exact eq
  · dsimp only
    rw [show ((m : Nat) : Int).toNat = m by omega, m3, eq]
  · have h := m4 k.toNat
    have h3 := h.1
    dsimp only
    exact ⟨by omega, by omega, h.2⟩
  · obtain ⟨j, j1, j2, j3, j4⟩ := hf _ (m4 k.toNat).1 (m4 k.toNat).2
    dsimp only
    rw [j3, show (k + 1).toNat = k.toNat + 1 by omega, itr_s, j4]
  · have h := m5 k.toNat l.toNat (by omega) (by omega)
    dsimp only
    omega
end STK
