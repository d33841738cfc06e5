/-! the reference: read whole -/
/-- what is laid by -/
def lyD (g : AMem) (k : Int) : Int := if k = 0 then g 137 1 else if k = 1 then g 137 2 else if k < 12 then g 139 (k - 2) else if k < 72 then g 140 (k - 12) else if k < 88 then g 141 (k - 72) else if k < 104 then g 142 (k - 88) else if k < 120 then g 143 (k - 104) else g 144 (k - 120)
section RDA
variable {L : Nat} {V W g h : AMem} {a b c e f hi i j lo n p q t w x : Int}
def R7 (g h : AMem) : Prop := ∀ a k, a ≠ 157 → h a k = g a k
theorem lyD_7 (hS : R7 g h) {k : Int} : lyD h k = lyD g k := by
  unfold lyD
  rw [hS _ _ (by omega), hS _ _ (by omega), hS _ _ (by omega), hS _ _ (by omega), hS _ _ (by omega), hS _ _ (by omega), hS _ _ (by omega), hS _ _ (by omega)]
theorem R7_u (hS : R7 g h) : R7 g (up h 157 j x) := fun a k q => by rw [up_n (by omega), hS a k q]
theorem cM_lays : ∃ g', jM_lays L g = some g' ∧ R7 g g' ∧ ∀ k, 0 ≤ k → k < 216 → g' 157 k = lyD g k := by
  have s1 : ∃ g1, jM_lays L g = jM_lays_22 L 0 g1 ∧ R7 g g1 ∧ ∀ k, 0 ≤ k → k < 2 → g1 157 k = lyD g k := by
    refine ⟨_, by rw [jM_lays_eq, if_pos (by omega), if_pos (by omega)], R7_u (R7_u (fun _ _ _ => rfl)), fun k k0 k1 => ?_⟩
    by_cases q : k = 1
    · rw [q, up_s, up_n (by omega)]
      rfl
    · rw [show k = 0 by omega, up_n (by omega), up_s]
      rfl
  obtain ⟨g1, a1, a2, a3⟩ := s1
  have s2 : ∃ g2, jM_lays_22 L 0 g1 = jM_lays_50 L 0 g2 ∧ R7 g g2 ∧ ∀ k, 0 ≤ k → k < 12 → g2 157 k = lyD g k := by
    refine lpx (F := fun i h => jM_lays_22 L i h) (I := fun i h => R7 g h ∧ ∀ k, 0 ≤ k → k < 2 + i → h 157 k = lyD g k) (P := fun q => ∃ g2, q = jM_lays_50 L 0 g2 ∧ R7 g g2 ∧ ∀ k, 0 ≤ k → k < 12 → g2 157 k = lyD g k) (n := 10) ?_ ?_ 0 g1 (Int.le_refl _) (by omega) ⟨a2, fun k k0 k1 => a3 k k0 (by omega)⟩
    · intro i h h2 h3 hI ih
      rw [jM_lays_22_eq, if_neg (by omega), if_pos (by omega), iw_n (show 0 ≤ 2 + i by omega) (by omega), if_pos (by omega), iw_n (by omega) (by omega)]
      refine ih _ ⟨R7_u hI.1, fun k k0 k1 => ?_⟩
      by_cases q : k = 2 + i
      · rw [q, up_s, hI.1 _ _ (by omega)]
        unfold lyD
        rw [if_neg (by omega), if_neg (by omega), if_pos (by omega), show 2 + i - 2 = i by omega]
      · rw [up_n (by omega)]
        exact hI.2 k k0 (by omega)
    · intro h hI
      exact ⟨h, by rw [jM_lays_22_eq, if_pos (by omega)], hI.1, fun k k0 k1 => hI.2 k k0 (by omega)⟩
  obtain ⟨g2, b1, b2, b3⟩ := s2
  have s3 : ∃ g2', jM_lays_50 L 0 g2 = jM_lays_79 L 0 g2' ∧ R7 g g2' ∧ ∀ k, 0 ≤ k → k < 72 → g2' 157 k = lyD g k := by
    refine lpx (F := fun i h => jM_lays_50 L i h) (I := fun i h => R7 g h ∧ ∀ k, 0 ≤ k → k < 12 + i → h 157 k = lyD g k) (P := fun q => ∃ g2', q = jM_lays_79 L 0 g2' ∧ R7 g g2' ∧ ∀ k, 0 ≤ k → k < 72 → g2' 157 k = lyD g k) (n := 60) ?_ ?_ 0 g2 (Int.le_refl _) (by omega) ⟨b2, fun k k0 k1 => b3 k k0 (by omega)⟩
    · intro i h h2 h3 hI ih
      rw [jM_lays_50_eq, if_neg (by omega), if_pos (by omega), iw_n (show 0 ≤ 12 + i by omega) (by omega), if_pos (by omega), iw_n (by omega) (by omega)]
      refine ih _ ⟨R7_u hI.1, fun k k0 k1 => ?_⟩
      by_cases q : k = 12 + i
      · rw [q, up_s, hI.1 _ _ (by omega)]
        unfold lyD
        rw [if_neg (by omega), if_neg (by omega), if_neg (by omega), if_pos (by omega), show 12 + i - 12 = i by omega]
      · rw [up_n (by omega)]
        exact hI.2 k k0 (by omega)
    · intro h hI
      exact ⟨h, by rw [jM_lays_50_eq, if_pos (by omega)], hI.1, fun k k0 k1 => hI.2 k k0 (by omega)⟩
  obtain ⟨g3, c1, c2, c3⟩ := s3
  have s4 : ∃ g4, jM_lays_79 L 0 g3 = jM_lays_138 L 0 g4 ∧ R7 g g4 ∧ ∀ k, 0 ≤ k → k < 120 → g4 157 k = lyD g k := by
    refine lpx (F := fun i h => jM_lays_79 L i h) (I := fun i h => R7 g h ∧ ∀ k, 0 ≤ k → (k < 72 + i ∨ (88 ≤ k ∧ k < 88 + i) ∨ (104 ≤ k ∧ k < 104 + i)) → h 157 k = lyD g k) (P := fun q => ∃ g4, q = jM_lays_138 L 0 g4 ∧ R7 g g4 ∧ ∀ k, 0 ≤ k → k < 120 → g4 157 k = lyD g k) (n := 16) ?_ ?_ 0 g3 (Int.le_refl _) (by omega) ⟨c2, fun k k0 k1 => c3 k k0 (by omega)⟩
    · intro i h h2 h3 hI ih
      have c16 : 0 ≤ i ∧ i < 16 := by omega
      rw [jM_lays_79_eq, if_neg (by omega), if_pos c16, iw_n (show 0 ≤ 72 + i by omega) (by omega), if_pos (show 0 ≤ 72 + i ∧ 72 + i < 216 by omega), if_pos c16, iw_n (show 0 ≤ 88 + i by omega) (by omega), if_pos (show 0 ≤ 88 + i ∧ 88 + i < 216 by omega), if_pos c16, iw_n (show 0 ≤ 104 + i by omega) (by omega), if_pos (show 0 ≤ 104 + i ∧ 104 + i < 216 by omega), iw_n (show 0 ≤ i + 1 by omega) (by omega), up_n (show (142 : Int) ≠ 157 ∨ i ≠ 72 + i by omega), up_n (show (143 : Int) ≠ 157 ∨ i ≠ 88 + i by omega), up_n (show (143 : Int) ≠ 157 ∨ i ≠ 72 + i by omega), hI.1 141 i (by omega), hI.1 142 i (by omega), hI.1 143 i (by omega)]
      refine ih _ ⟨R7_u (R7_u (R7_u hI.1)), fun k k0 k1 => ?_⟩
      by_cases q1 : k = 104 + i
      · rw [q1, up_s]
        unfold lyD
        rw [if_neg (by omega), if_neg (by omega), if_neg (by omega), if_neg (by omega), if_neg (by omega), if_neg (by omega), if_pos (by omega), show 104 + i - 104 = i by omega]
      · rw [up_n (by omega)]
        by_cases q2 : k = 88 + i
        · rw [q2, up_s]
          unfold lyD
          rw [if_neg (by omega), if_neg (by omega), if_neg (by omega), if_neg (by omega), if_neg (by omega), if_pos (by omega), show 88 + i - 88 = i by omega]
        · rw [up_n (by omega)]
          by_cases q3 : k = 72 + i
          · rw [q3, up_s]
            unfold lyD
            rw [if_neg (by omega), if_neg (by omega), if_neg (by omega), if_neg (by omega), if_pos (by omega), show 72 + i - 72 = i by omega]
          · rw [up_n (by omega)]
            exact hI.2 k k0 (by omega)
    · intro h hI
      exact ⟨h, by rw [jM_lays_79_eq, if_pos (by omega)], hI.1, fun k k0 k1 => hI.2 k k0 (by omega)⟩
  obtain ⟨g4, d1, d2, d3⟩ := s4
  rw [a1, b1, c1, d1]
  refine lpx (F := fun i h => jM_lays_138 L i h) (I := fun i h => R7 g h ∧ ∀ k, 0 ≤ k → k < 120 + i → h 157 k = lyD g k) (P := fun q => ∃ g', q = some g' ∧ R7 g g' ∧ ∀ k, 0 ≤ k → k < 216 → g' 157 k = lyD g k) (n := 96) ?_ ?_ 0 g4 (Int.le_refl _) (by omega) ⟨d2, fun k k0 k1 => d3 k k0 (by omega)⟩
  · intro i h h2 h3 hI ih
    rw [jM_lays_138_eq, if_neg (by omega), if_pos (by omega), iw_n (show 0 ≤ 120 + i by omega) (by omega), if_pos (by omega), iw_n (by omega) (by omega)]
    refine ih _ ⟨R7_u hI.1, fun k k0 k1 => ?_⟩
    by_cases q : k = 120 + i
    · rw [q, up_s, hI.1 _ _ (by omega)]
      unfold lyD
      rw [if_neg (by omega), if_neg (by omega), if_neg (by omega), if_neg (by omega), if_neg (by omega), if_neg (by omega), if_neg (by omega), show 120 + i - 120 = i by omega]
    · rw [up_n (by omega)]
      exact hI.2 k k0 (by omega)
  · intro h hI
    exact ⟨h, by rw [jM_lays_138_eq, if_pos (by omega)], hI.1, fun k k0 k1 => hI.2 k k0 (by omega)⟩
/-- what is taken back -/
def tkR (a k : Int) : Prop := (a = 137 ∧ (k = 1 ∨ k = 2)) ∨ (139 ≤ a ∧ a ≤ 144)
def tkD (g : AMem) (a k : Int) : Prop := (a = 137 ∧ (k = 1 ∨ k = 2)) ∨ (a = 139 ∧ 0 ≤ k ∧ k < 10) ∨ (a = 140 ∧ 0 ≤ k ∧ k < 60) ∨ ((a = 141 ∨ a = 142 ∨ a = 143) ∧ 0 ≤ k ∧ k < 16) ∨ (a = 144 ∧ 0 ≤ k ∧ k < 96)
def tkV (g : AMem) (a k : Int) : Int := if a = 137 then g 157 (k - 1) else if a = 139 then g 157 (2 + k) else if a = 140 then g 157 (12 + k) else if a = 141 then g 157 (72 + k) else if a = 142 then g 157 (88 + k) else if a = 143 then g 157 (104 + k) else g 157 (120 + k)
def RT (g h : AMem) : Prop := ∀ a k, ¬ tkR a k → h a k = g a k
theorem RT_u (hS : RT g h) (hj : tkR b j) : RT g (up h b j x) := fun a k q => by
  rw [up_n, hS a k q]
  by_cases e1 : a = b
  · right
    intro e2
    rw [e1, e2] at q
    exact q hj
  · exact Or.inl e1
theorem cM_takes : ∃ g', jM_takes L g = some g' ∧ RT g g' ∧ (g' 137 1 = g 157 0 ∧ g' 137 2 = g 157 1) ∧ (∀ k, 0 ≤ k → k < 10 → g' 139 k = g 157 (2 + k)) ∧ (∀ k, 0 ≤ k → k < 60 → g' 140 k = g 157 (12 + k)) ∧ (∀ k, 0 ≤ k → k < 16 → g' 141 k = g 157 (72 + k) ∧ g' 142 k = g 157 (88 + k) ∧ g' 143 k = g 157 (104 + k)) ∧ ∀ k, 0 ≤ k → k < 96 → g' 144 k = g 157 (120 + k) := by
  have n157 : ∀ h, RT g h → ∀ k, h 157 k = g 157 k := fun h hS k => hS _ _ (by unfold tkR; omega)
  have s1 : ∃ g1, jM_takes L g = jM_takes_22 L 0 g1 ∧ RT g g1 ∧ (g1 137 1 = g 157 0 ∧ g1 137 2 = g 157 1) := by
    refine ⟨_, by rw [jM_takes_eq, if_pos (by omega), if_pos (by omega)], RT_u (RT_u (fun _ _ _ => rfl) (by unfold tkR; omega)) (by unfold tkR; omega), ?_, ?_⟩
    · rw [up_n (by omega), up_s]
    · rw [up_s, up_n (by omega)]
  obtain ⟨g1, a1, a2, a3⟩ := s1
  have s2 : ∃ g2, jM_takes_22 L 0 g1 = jM_takes_50 L 0 g2 ∧ RT g g2 ∧ (g2 137 1 = g 157 0 ∧ g2 137 2 = g 157 1) ∧ ∀ k, 0 ≤ k → k < 10 → g2 139 k = g 157 (2 + k) := by
    refine lpx (F := fun i h => jM_takes_22 L i h) (I := fun i h => RT g h ∧ (h 137 1 = g 157 0 ∧ h 137 2 = g 157 1) ∧ ∀ k, 0 ≤ k → k < i → h 139 k = g 157 (2 + k)) (P := fun q => ∃ g2, q = jM_takes_50 L 0 g2 ∧ RT g g2 ∧ (g2 137 1 = g 157 0 ∧ g2 137 2 = g 157 1) ∧ ∀ k, 0 ≤ k → k < 10 → g2 139 k = g 157 (2 + k)) (n := 10) ?_ ?_ 0 g1 (Int.le_refl _) (by omega) ⟨a2, a3, fun k k0 k1 => by omega⟩
    · intro i h h2 h3 hI ih
      rw [jM_takes_22_eq, if_neg (by omega), iw_n (show 0 ≤ 2 + i by omega) (by omega), if_pos (by omega), if_pos (by omega), iw_n (by omega) (by omega), n157 h hI.1]
      refine ih _ ⟨RT_u hI.1 (by unfold tkR; omega), by rw [up_n (by omega), up_n (by omega)]; exact hI.2.1, fun k k0 k1 => ?_⟩
      by_cases q : k = i
      · rw [q, up_s]
      · rw [up_n (by omega)]
        exact hI.2.2 k k0 (by omega)
    · intro h hI
      exact ⟨h, by rw [jM_takes_22_eq, if_pos (by omega)], hI⟩
  obtain ⟨g2, b1, b2, b3, b4⟩ := s2
  have s3 : ∃ g3, jM_takes_50 L 0 g2 = jM_takes_79 L 0 g3 ∧ RT g g3 ∧ (g3 137 1 = g 157 0 ∧ g3 137 2 = g 157 1) ∧ (∀ k, 0 ≤ k → k < 10 → g3 139 k = g 157 (2 + k)) ∧ ∀ k, 0 ≤ k → k < 60 → g3 140 k = g 157 (12 + k) := by
    refine lpx (F := fun i h => jM_takes_50 L i h) (I := fun i h => RT g h ∧ (h 137 1 = g 157 0 ∧ h 137 2 = g 157 1) ∧ (∀ k, 0 ≤ k → k < 10 → h 139 k = g 157 (2 + k)) ∧ ∀ k, 0 ≤ k → k < i → h 140 k = g 157 (12 + k)) (P := fun q => ∃ g3, q = jM_takes_79 L 0 g3 ∧ RT g g3 ∧ (g3 137 1 = g 157 0 ∧ g3 137 2 = g 157 1) ∧ (∀ k, 0 ≤ k → k < 10 → g3 139 k = g 157 (2 + k)) ∧ ∀ k, 0 ≤ k → k < 60 → g3 140 k = g 157 (12 + k)) (n := 60) ?_ ?_ 0 g2 (Int.le_refl _) (by omega) ⟨b2, b3, b4, fun k k0 k1 => by omega⟩
    · intro i h h2 h3 hI ih
      rw [jM_takes_50_eq, if_neg (by omega), iw_n (show 0 ≤ 12 + i by omega) (by omega), if_pos (by omega), if_pos (by omega), iw_n (by omega) (by omega), n157 h hI.1]
      refine ih _ ⟨RT_u hI.1 (by unfold tkR; omega), by rw [up_n (by omega), up_n (by omega)]; exact hI.2.1, fun k k0 k1 => by rw [up_n (by omega)]; exact hI.2.2.1 k k0 k1, fun k k0 k1 => ?_⟩
      by_cases q : k = i
      · rw [q, up_s]
      · rw [up_n (by omega)]
        exact hI.2.2.2 k k0 (by omega)
    · intro h hI
      exact ⟨h, by rw [jM_takes_50_eq, if_pos (by omega)], hI⟩
  obtain ⟨g3, c1, c2, c3, c4, c5⟩ := s3
  have s4 : ∃ g4, jM_takes_79 L 0 g3 = jM_takes_138 L 0 g4 ∧ RT g g4 ∧ (g4 137 1 = g 157 0 ∧ g4 137 2 = g 157 1) ∧ (∀ k, 0 ≤ k → k < 10 → g4 139 k = g 157 (2 + k)) ∧ (∀ k, 0 ≤ k → k < 60 → g4 140 k = g 157 (12 + k)) ∧ ∀ k, 0 ≤ k → k < 16 → g4 141 k = g 157 (72 + k) ∧ g4 142 k = g 157 (88 + k) ∧ g4 143 k = g 157 (104 + k) := by
    refine lpx (F := fun i h => jM_takes_79 L i h) (I := fun i h => RT g h ∧ (h 137 1 = g 157 0 ∧ h 137 2 = g 157 1) ∧ (∀ k, 0 ≤ k → k < 10 → h 139 k = g 157 (2 + k)) ∧ (∀ k, 0 ≤ k → k < 60 → h 140 k = g 157 (12 + k)) ∧ ∀ k, 0 ≤ k → k < i → h 141 k = g 157 (72 + k) ∧ h 142 k = g 157 (88 + k) ∧ h 143 k = g 157 (104 + k)) (P := fun q => ∃ g4, q = jM_takes_138 L 0 g4 ∧ RT g g4 ∧ (g4 137 1 = g 157 0 ∧ g4 137 2 = g 157 1) ∧ (∀ k, 0 ≤ k → k < 10 → g4 139 k = g 157 (2 + k)) ∧ (∀ k, 0 ≤ k → k < 60 → g4 140 k = g 157 (12 + k)) ∧ ∀ k, 0 ≤ k → k < 16 → g4 141 k = g 157 (72 + k) ∧ g4 142 k = g 157 (88 + k) ∧ g4 143 k = g 157 (104 + k)) (n := 16) ?_ ?_ 0 g3 (Int.le_refl _) (by omega) ⟨c2, c3, c4, c5, fun k k0 k1 => by omega⟩
    · intro i h h2 h3 hI ih
      have c16 : 0 ≤ i ∧ i < 16 := by omega
      rw [jM_takes_79_eq, if_neg (by omega), iw_n (show 0 ≤ 72 + i by omega) (by omega), if_pos (show 0 ≤ 72 + i ∧ 72 + i < 216 by omega), if_pos c16, iw_n (show 0 ≤ 88 + i by omega) (by omega), if_pos (show 0 ≤ 88 + i ∧ 88 + i < 216 by omega), if_pos c16, iw_n (show 0 ≤ 104 + i by omega) (by omega), if_pos (show 0 ≤ 104 + i ∧ 104 + i < 216 by omega), if_pos c16, iw_n (show 0 ≤ i + 1 by omega) (by omega), up_n (show (157 : Int) ≠ 141 ∨ 88 + i ≠ i by omega), up_n (show (157 : Int) ≠ 142 ∨ 104 + i ≠ i by omega), up_n (show (157 : Int) ≠ 141 ∨ 104 + i ≠ i by omega), n157 h hI.1, n157 h hI.1, n157 h hI.1]
      refine ih _ ⟨RT_u (RT_u (RT_u hI.1 (by unfold tkR; omega)) (by unfold tkR; omega)) (by unfold tkR; omega), by rw [up_n (by omega), up_n (by omega), up_n (by omega), up_n (by omega), up_n (by omega), up_n (by omega)]; exact hI.2.1, fun k k0 k1 => by rw [up_n (by omega), up_n (by omega), up_n (by omega)]; exact hI.2.2.1 k k0 k1, fun k k0 k1 => by rw [up_n (by omega), up_n (by omega), up_n (by omega)]; exact hI.2.2.2.1 k k0 k1, fun k k0 k1 => ?_⟩
      rw [up_n (show (141 : Int) ≠ 143 ∨ k ≠ i by omega), up_n (show (141 : Int) ≠ 142 ∨ k ≠ i by omega), up_n (show (142 : Int) ≠ 143 ∨ k ≠ i by omega)]
      by_cases q : k = i
      · rw [q, up_s, up_s, up_s]
        exact ⟨rfl, rfl, rfl⟩
      · rw [up_n (by omega), up_n (by omega), up_n (by omega), up_n (by omega)]
        exact hI.2.2.2.2 k k0 (by omega)
    · intro h hI
      exact ⟨h, by rw [jM_takes_79_eq, if_pos (by omega)], hI⟩
  obtain ⟨g4, d1, d2, d3, d4, d5, d6⟩ := s4
  rw [a1, b1, c1, d1]
  refine lpx (F := fun i h => jM_takes_138 L i h) (I := fun i h => RT g h ∧ (h 137 1 = g 157 0 ∧ h 137 2 = g 157 1) ∧ (∀ k, 0 ≤ k → k < 10 → h 139 k = g 157 (2 + k)) ∧ (∀ k, 0 ≤ k → k < 60 → h 140 k = g 157 (12 + k)) ∧ (∀ k, 0 ≤ k → k < 16 → h 141 k = g 157 (72 + k) ∧ h 142 k = g 157 (88 + k) ∧ h 143 k = g 157 (104 + k)) ∧ ∀ k, 0 ≤ k → k < i → h 144 k = g 157 (120 + k)) (P := fun q => ∃ g', q = some g' ∧ RT g g' ∧ (g' 137 1 = g 157 0 ∧ g' 137 2 = g 157 1) ∧ (∀ k, 0 ≤ k → k < 10 → g' 139 k = g 157 (2 + k)) ∧ (∀ k, 0 ≤ k → k < 60 → g' 140 k = g 157 (12 + k)) ∧ (∀ k, 0 ≤ k → k < 16 → g' 141 k = g 157 (72 + k) ∧ g' 142 k = g 157 (88 + k) ∧ g' 143 k = g 157 (104 + k)) ∧ ∀ k, 0 ≤ k → k < 96 → g' 144 k = g 157 (120 + k)) (n := 96) ?_ ?_ 0 g4 (Int.le_refl _) (by omega) ⟨d2, d3, d4, d5, d6, fun k k0 k1 => by omega⟩
  · intro i h h2 h3 hI ih
    rw [jM_takes_138_eq, if_neg (by omega), iw_n (show 0 ≤ 120 + i by omega) (by omega), if_pos (by omega), if_pos (by omega), iw_n (by omega) (by omega), n157 h hI.1]
    refine ih _ ⟨RT_u hI.1 (by unfold tkR; omega), by rw [up_n (by omega), up_n (by omega)]; exact hI.2.1, fun k k0 k1 => by rw [up_n (by omega)]; exact hI.2.2.1 k k0 k1, fun k k0 k1 => by rw [up_n (by omega)]; exact hI.2.2.2.1 k k0 k1, fun k k0 k1 => by rw [up_n (by omega), up_n (by omega), up_n (by omega)]; exact hI.2.2.2.2.1 k k0 k1, fun k k0 k1 => ?_⟩
    by_cases q : k = i
    · rw [q, up_s]
    · rw [up_n (by omega)]
      exact hI.2.2.2.2.2 k k0 (by omega)
  · intro h hI
    exact ⟨h, by rw [jM_takes_138_eq, if_pos (by omega)], hI⟩
theorem cM_read (hV : VaV V) (hR : RfV V g) : ∃ g', jM_read L g = some ((oRead V).1, g') ∧ RfV (oRead V).2 g' ∧ ∀ a k, a < 137 ∨ a = 153 → g' a k = g a k := by
  have h6 := hV.2.2.2.1
  obtain ⟨g1, a1, a2, a3⟩ := cM_lays (L := L) (g := g)
  have hR1 : RfV V g1 := RfV_k hR (fun a k q => a2 a k (by omega))
  have hR1' : RfV V (up g1 137 25 0) := RfV_k hR1 (fun a k q => by rw [up_n (by omega)])
  obtain ⟨g2, b1, b2, b3⟩ := cM_anew (L := L) hR1'
  rw [jM_anew_eq] at b1
  have b1' := (Prod.mk.inj (Option.some.inj b1)).2
  have hR2 : Rd V (oAnew V).2 0 g2 := ⟨oAnew_V hV, an_T hV, b2, by rw [← b1', up_n (by omega), up_n (by omega), up_s], by omega, h6.1⟩
  obtain ⟨g3, c1, c2, c3⟩ := cM_skip (L := L) hR2
  obtain ⟨g4, q, d1, d2, d3, d4⟩ := cM_rda21 (L := L) 122 (oAnew V).2 g3 0 0 c2 h6.1 (by omega) (by omega) (by omega)
  have hl : Lr g1 g4 := Lr_t (Lr_t (Lr_p (Pk_u Pk_r (Or.inl rfl))) (Lr_l b3)) (Lr_t (Lr_p c3) d4)
  have hI := pIte_I (V := V) h6.2 122 (oAnew V).2 0 0 (oAnew_V hV) (an_T hV) (by omega) h6.1 (by omega) (by omega)
  have hall : jM_readsAll L g1 = some (if 0 < (pIte V 122 (oAnew V).2 0 0).1 then (pIte V 122 (oAnew V).2 0 0).1 else -201, g4) := by
    rw [jM_readsAll_eq, b1', c1, bnd, d1]
  rw [jM_read_eq, a1, bnd, hall, bnd]
  dsimp only
  unfold oRead
  by_cases hq : 0 < (pIte V 122 (oAnew V).2 0 0).1
  · rw [if_pos hq, if_pos hq, if_pos (by omega)]
    exact ⟨g4, rfl, d2.2.2.1, fun a k q => by rw [hl a k (by omega), a2 a k (by omega)]⟩
  · rw [if_neg hq, if_neg hq, if_neg (by omega)]
    obtain ⟨g5, e1, e2, e3, e4, e5, e6, e7⟩ := cM_takes (L := L) (g := g4)
    have hd := d3 (by omega)
    have e25 : g5 137 25 = q := by rw [e2 _ _ (by unfold tkR; omega)]; exact d2.2.2.2.1
    have hq6 := d2.2.2.2.2.2
    have hq5 := d2.2.2.2.2.1
    rw [e1, bnd]
    dsimp only
    rw [e25, iw_s (by omega), hd]
    have v157 : ∀ k, 0 ≤ k → k < 216 → g4 157 k = lyD g k := fun k k0 k1 => by rw [hl _ _ (by omega), a3 k k0 k1]
    refine ⟨g5, rfl, ?_, fun a k q => by rw [e2 a k (by unfold tkR; omega), hl a k (by omega), a2 a k (by omega)]⟩
    have t := d2.2.1
    have r := d2.2.2.1
    have b0 := hV.1
    have n0 := hV.2.1
    refine ⟨⟨?_, ?_, ?_, ?_, ?_, ?_, ?_⟩, fun b hb0 hb1 => ?_, fun e he0 he1 => ?_, fun i hi0 hi1 => ?_⟩
    · rw [e3.1, v157 _ (by omega) (by omega)]
      exact hR.1.1
    · rw [e3.2, v157 _ (by omega) (by omega)]
      exact hR.1.2.1
    · rw [e2 _ _ (by unfold tkR; omega), r.1.2.2.1, t.2.2 _ (by omega)]
    · rw [e2 _ _ (by unfold tkR; omega), r.1.2.2.2.1, t.2.2 _ (by omega)]
    · rw [e2 _ _ (by unfold tkR; omega), r.1.2.2.2.2.1, t.2.2 _ (by omega)]
    · rw [e2 _ _ (by unfold tkR; omega), r.1.2.2.2.2.2.1, t.2.2 _ (by omega)]
    · rw [e2 _ _ (by unfold tkR; omega), r.1.2.2.2.2.2.2, t.2.2 _ (by omega)]
    · have hB := hR.2.1 b hb0 hb1
      have hm := (hV.2.2.2.2.1 b hb0 hb1).1
      rw [e4 b hb0 (by omega), v157 _ (by omega) (by omega)]
      refine ⟨?_, fun i hi0 hi1 => ?_⟩
      · unfold lyD
        rw [if_neg (by omega), if_neg (by omega), if_pos (by omega), show 2 + b - 2 = b by omega]
        exact hB.1
      · rw [e5 _ (by omega) (by omega), v157 _ (by omega) (by omega)]
        unfold lyD
        rw [if_neg (by omega), if_neg (by omega), if_neg (by omega), if_pos (by omega), show 12 + (6 * b + i) - 12 = 6 * b + i by omega]
        exact hB.2 i hi0 hi1
    · have hE := hR.2.2.1 e he0 he1
      have hn := edg_n hV he0 he1
      have h3 := e6 e he0 (by omega)
      rw [h3.1, h3.2.1, h3.2.2, v157 _ (by omega) (by omega), v157 _ (by omega) (by omega), v157 _ (by omega) (by omega)]
      refine ⟨?_, ?_, ?_, fun i hi0 hi1 => ?_⟩
      · unfold lyD
        rw [if_neg (by omega), if_neg (by omega), if_neg (by omega), if_neg (by omega), if_pos (by omega), show 72 + e - 72 = e by omega]
        exact hE.1
      · unfold lyD
        rw [if_neg (by omega), if_neg (by omega), if_neg (by omega), if_neg (by omega), if_neg (by omega), if_pos (by omega), show 88 + e - 88 = e by omega]
        exact hE.2.1
      · unfold lyD
        rw [if_neg (by omega), if_neg (by omega), if_neg (by omega), if_neg (by omega), if_neg (by omega), if_neg (by omega), if_pos (by omega), show 104 + e - 104 = e by omega]
        exact hE.2.2.1
      · rw [e7 _ (by omega) (by omega), v157 _ (by omega) (by omega)]
        unfold lyD
        rw [if_neg (by omega), if_neg (by omega), if_neg (by omega), if_neg (by omega), if_neg (by omega), if_neg (by omega), if_neg (by omega), show 120 + (6 * e + i) - 120 = 6 * e + i by omega]
        exact hE.2.2.2 i hi0 hi1
    · rw [e2 _ _ (by unfold tkR; omega), r.2.2.2 i hi0 (by rw [t.1]; exact hi1), t.2.1]
end RDA
