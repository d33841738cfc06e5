/-! as many holes as pigeons -/
theorem pig : ∀ (n : Nat) (c : Nat → Nat), (∀ j, j < n → c j < n) → (∀ j k, j < n → k < n → c j = c k → j = k) → ∀ i, i < n → ∃ j, j < n ∧ c j = i
  | 0, _, _, _, i, hi => by omega
  | n + 1, c, hm, hj, i, hi => by
    have hv := hm n (by omega)
    have hd : ∀ j, j < n → (if c j = n then c n else c j) < n := by
      intro j hjn
      have h1 := hm j (by omega)
      split
      · rename_i h
        rcases Nat.lt_or_ge (c n) n with q | q
        · exact q
        · have : c n = n := by omega
          have := hj j n (by omega) (by omega) (by omega)
          omega
      · omega
    have hdj : ∀ j k, j < n → k < n → (if c j = n then c n else c j) = (if c k = n then c n else c k) → j = k := by
      intro j k h1 h2 h3
      by_cases q1 : c j = n
      · by_cases q2 : c k = n
        · exact hj j k (by omega) (by omega) (by omega)
        · rw [if_pos q1, if_neg q2] at h3
          have := hj n k (by omega) (by omega) h3
          omega
      · by_cases q2 : c k = n
        · rw [if_neg q1, if_pos q2] at h3
          have := hj j n (by omega) (by omega) h3
          omega
        · rw [if_neg q1, if_neg q2] at h3
          exact hj j k (by omega) (by omega) h3
    have ih := pig n (fun j => if c j = n then c n else c j) hd hdj
    by_cases q : i = c n
    · exact ⟨n, by omega, q.symm⟩
    · by_cases q2 : i = n
      · obtain ⟨j, h1, h2⟩ := ih (c n) (by omega)
        by_cases q3 : c j = n
        · exact ⟨j, by omega, by omega⟩
        · rw [if_neg q3] at h2
          have := hj j n (by omega) (by omega) h2
          omega
      · obtain ⟨j, h1, h2⟩ := ih i (by omega)
        by_cases q3 : c j = n
        · rw [if_pos q3] at h2
          omega
        · rw [if_neg q3] at h2
          exact ⟨j, by omega, h2⟩
/-- more pigeons than holes -/
theorem pig2 (n : Nat) (c : Nat → Nat) (hm : ∀ j, j < n + 1 → c j < n) : ∃ j k, j < k ∧ k < n + 1 ∧ c j = c k := by
  by_cases h : ∃ j k, j < k ∧ k < n + 1 ∧ c j = c k
  · exact h
  · exfalso
    have hj : ∀ j k, j < n + 1 → k < n + 1 → c j = c k → j = k := by
      intro j k h1 h2 h3
      rcases Nat.lt_trichotomy j k with q | q | q
      · exact absurd ⟨j, k, q, h2, h3⟩ h
      · exact q
      · exact absurd ⟨k, j, q, h1, h3.symm⟩ h
    obtain ⟨j, h1, h2⟩ := pig (n + 1) c (fun j q => by have := hm j q; omega) hj n (by omega)
    have := hm j h1
    omega
/-- within some of them -/
theorem pigS (n : Nat) (S : Nat → Prop) (c : Nat → Nat) (hm : ∀ j, j < n → S j → c j < n ∧ S (c j)) (hj : ∀ j k, j < n → k < n → S j → S k → c j = c k → j = k) (i : Nat) (hi : i < n) (hS : S i) : ∃ j, j < n ∧ S j ∧ c j = i := by
  have := Classical.propDecidable
  obtain ⟨j, h1, h2⟩ := pig n (fun j => if S j then c j else j) (fun j q => by
    split
    · rename_i h
      exact (hm j q h).1
    · exact q) (fun j k q1 q2 q3 => by
    by_cases h1 : S j
    · by_cases h2 : S k
      · rw [if_pos h1, if_pos h2] at q3
        exact hj j k q1 q2 h1 h2 q3
      · rw [if_pos h1, if_neg h2] at q3
        have := (hm j q1 h1).2
        rw [q3] at this
        exact absurd this h2
    · by_cases h2 : S k
      · rw [if_neg h1, if_pos h2] at q3
        have := (hm k q2 h2).2
        rw [← q3] at this
        exact absurd this h1
      · rw [if_neg h1, if_neg h2] at q3
        exact q3) i hi
  by_cases h3 : S j
  · rw [if_pos h3] at h2
    exact ⟨j, h1, h3, h2⟩
  · rw [if_neg h3] at h2
    rw [h2] at h3
    exact absurd hS h3
def itr (f : Nat → Nat) : Nat → Nat → Nat
  | 0, i => i
  | k + 1, i => itr f k (f i)
theorem itr_s {f : Nat → Nat} : ∀ {k i : Nat}, itr f (k + 1) i = f (itr f k i)
  | 0, i => rfl
  | k + 1, i => by
    rw [itr, itr_s (k := k) (i := f i)]
    rfl
theorem itr_a {f : Nat → Nat} {a : Nat} : ∀ {k i : Nat}, itr f (a + k) i = itr f a (itr f k i)
  | 0, i => rfl
  | k + 1, i => by
    rw [show a + (k + 1) = (a + k) + 1 by omega, itr, itr_a (k := k) (i := f i)]
    rfl
/-- one that is one to one goes round -/
theorem orb (n : Nat) (S : Nat → Prop) (f : Nat → Nat) (hm : ∀ j, j < n → S j → f j < n ∧ S (f j)) (hj : ∀ j k, j < n → k < n → S j → S k → f j = f k → j = k) (q : Nat) (hq : q < n) (hS : S q) : ∃ m, 1 ≤ m ∧ m ≤ n ∧ itr f m q = q ∧ (∀ k, itr f k q < n ∧ S (itr f k q)) ∧ ∀ a b, a < b → b < m → itr f a q ≠ itr f b q := by
  have hin : ∀ k, itr f k q < n ∧ S (itr f k q) := by
    intro k
    induction k with
    | zero => exact ⟨hq, hS⟩
    | succ k ih =>
      rw [itr_s]
      exact hm _ ih.1 ih.2
  obtain ⟨a, b, hab, hb, he⟩ := pig2 n (fun k => itr f k q) (fun k _ => (hin k).1)
  have hback : ∀ a d, itr f (a + d) q = itr f a q → itr f d q = q := by
    intro a
    induction a with
    | zero =>
      intro d h
      rw [show 0 + d = d by omega] at h
      exact h
    | succ a ih =>
      intro d h
      apply ih
      rw [show a + 1 + d = a + d + 1 by omega, itr_s, itr_s] at h
      exact hj _ _ (hin _).1 (hin _).1 (hin _).2 (hin _).2 h
  have hd : itr f (b - a) q = q := hback a (b - a) (by rw [show a + (b - a) = b by omega]; exact he.symm)
  have hleast : ∀ N, ∀ d, 1 ≤ d → d ≤ N → d ≤ n → itr f d q = q → ∃ m, 1 ≤ m ∧ m ≤ n ∧ itr f m q = q ∧ ∀ k, 1 ≤ k → k < m → itr f k q ≠ q := by
    intro N
    induction N with
    | zero =>
      intro d h1 h2
      omega
    | succ N ih =>
      intro d h1 h2 h3 h4
      by_cases h : ∃ k, 1 ≤ k ∧ k < d ∧ itr f k q = q
      · obtain ⟨k, k1, k2, k3⟩ := h
        exact ih k k1 (by omega) (by omega) k3
      · exact ⟨d, h1, h3, h4, fun k k1 k2 k3 => h ⟨k, k1, k2, k3⟩⟩
  obtain ⟨m, m1, m2, m3, m4⟩ := hleast _ (b - a) (by omega) (Nat.le_refl _) (by omega) hd
  refine ⟨m, m1, m2, m3, hin, fun x y h1 h2 h3 => ?_⟩
  exact m4 (y - x) (by omega) (by omega) (hback x (y - x) (by rw [show x + (y - x) = y by omega]; exact h3.symm))
