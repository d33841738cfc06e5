/-! tail: what it answers -/
def sbK (W X : AMem) : Nat → Int → Int
  | 0, n => n
  | k + 1, n => if W 0 0 ≤ n then n else if X 0 0 ≤ n then n else if W 1 (W 0 0 - 1 - n) = X 1 (X 0 0 - 1 - n) ∧ W 2 (W 0 0 - 1 - n) = X 2 (X 0 0 - 1 - n) ∧ W 3 (W 0 0 - 1 - n) = X 3 (X 0 0 - 1 - n) then sbK W X k (n + 1) else n
def RfO (X g : AMem) : Prop := g 137 16 = X 0 0 ∧ ∀ k, 0 ≤ k → k < X 0 0 → g 150 k = X 1 k ∧ g 151 k = X 2 k ∧ g 152 k = X 3 k
section TAI
variable {L : Nat} {V W X g : AMem} {a b bt c d e f i j kd n p q r t w x : Int}
theorem cM_asOther (hP : RfP W n g) (h0 : 0 ≤ W 0 0) (h9 : W 0 0 ≤ 9) : ∃ g', jM_asOther L g = some g' ∧ RfO W g' ∧ RfP W n g' ∧ Sc g g' := by
  have e10 : g 137 10 = W 0 0 := hP.1
  rw [jM_asOther_eq, e10]
  refine lpx (F := fun i h => jM_asOther_10 L i h) (I := fun i h => (∀ a k, (a < 150 ∨ 152 < a) → ¬ (a = 137 ∧ k = 16) → h a k = g a k) ∧ h 137 16 = W 0 0 ∧ ∀ k, 0 ≤ k → k < i → h 150 k = W 1 k ∧ h 151 k = W 2 k ∧ h 152 k = W 3 k) (P := fun q => ∃ g', q = some g' ∧ RfO W g' ∧ RfP W n g' ∧ Sc g g') (n := W 0 0) ?_ ?_ 0 _ (Int.le_refl _) h0 ⟨fun a k q q2 => up_n (by omega), up_s, fun k q0 q1 => by omega⟩
  · intro i h h2 h3 hI ih
    have hk := hP.2.1 i h2 h3
    have h24 : 0 ≤ i ∧ i < 24 := by omega
    have n10 : h 137 10 = W 0 0 := by rw [hI.1 _ _ (by omega) (by omega), e10]
    have m1 : h 145 i = W 1 i := by rw [hI.1 _ _ (by omega) (by omega)]; exact hk.1
    have m2 : h 146 i = W 2 i := by rw [hI.1 _ _ (by omega) (by omega)]; exact hk.2.1
    have m3 : h 147 i = W 3 i := by rw [hI.1 _ _ (by omega) (by omega)]; exact hk.2.2
    rw [jM_asOther_10_eq, n10, if_neg (by omega), if_pos h24, if_pos h24, if_pos h24, if_pos h24, if_pos h24, if_pos h24, iw_n (by omega) (by omega), m1, up_n (show (146 : Int) ≠ 150 ∨ i ≠ i by omega), m2, up_n (show (147 : Int) ≠ 151 ∨ i ≠ i by omega), up_n (show (147 : Int) ≠ 150 ∨ i ≠ i by omega), m3]
    refine ih _ ⟨fun a k q q2 => by rw [up_n (by omega), up_n (by omega), up_n (by omega), hI.1 a k q q2], by rw [up_n (by omega), up_n (by omega), up_n (by omega), hI.2.1], fun k q0 q1 => ?_⟩
    rw [up_n (show (150 : Int) ≠ 152 ∨ k ≠ i by omega), up_n (show (150 : Int) ≠ 151 ∨ k ≠ i by omega), up_n (show (151 : Int) ≠ 152 ∨ k ≠ i by omega)]
    by_cases e : k = i
    · rw [e, up_s, up_s, up_s]
      exact ⟨rfl, rfl, rfl⟩
    · rw [up_n (by omega), up_n (by omega), up_n (by omega), up_n (by omega)]
      exact hI.2.2 k q0 (by omega)
  · intro h hI
    have n10 : h 137 10 = W 0 0 := by rw [hI.1 _ _ (by omega) (by omega), e10]
    refine ⟨h, ?_, ⟨hI.2.1, hI.2.2⟩, ⟨n10, fun k q0 q1 => ?_, fun i q0 q1 => ?_⟩, fun a k q => hI.1 a k (by unfold scR at q; omega) (by unfold scR at q; omega)⟩
    · rw [jM_asOther_10_eq, n10, if_pos (Int.le_refl _)]
    · rw [hI.1 _ _ (by omega) (by omega), hI.1 _ _ (by omega) (by omega), hI.1 _ _ (by omega) (by omega)]
      exact hP.2.1 k q0 q1
    · rw [hI.1 _ _ (by omega) (by omega), hI.1 _ _ (by omega) (by omega)]
      exact hP.2.2 i q0 q1
end TAI
