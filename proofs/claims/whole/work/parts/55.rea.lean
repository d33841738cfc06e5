/-! reach: what it answers -/
def rK (V : AMem) (a : Int) : Nat → Int → Bool
  | 0, b => decide (b = a)
  | k + 1, b => rK V a k b || anB (fun e => decide (V 3 e = b) && rK V a k (V 2 e)) (V 0 1).toNat
def dsR (V : AMem) (a : Int) : Nat → Int → Int
  | 0, b => if rK V a 0 b = true then 0 else -201
  | k + 1, b => if dsR V a k b ≠ -201 then dsR V a k b else if rK V a (k + 1) b = true then (k : Int) + 1 else -201
def oReach (V : AMem) (a b : Int) : Int × AMem := if 0 ≤ a ∧ a < V 0 0 then (if 0 ≤ b ∧ b < V 0 0 then (dsR V a (V 0 0).toNat b, V) else rB V) else rB V
theorem cnB_le {f g : Int → Bool} (h : ∀ i : Int, f i = true → g i = true) : ∀ {k : Nat}, cnB f k ≤ cnB g k
  | 0 => Int.le_refl _
  | k + 1 => by
    have ih := cnB_le h (k := k)
    rw [cnB, cnB]
    by_cases q : f k = true
    · rw [if_pos q, if_pos (h _ q)]
      omega
    · rw [if_neg q]
      split <;> omega
theorem cnB_lt {f g : Int → Bool} (h : ∀ i : Int, f i = true → g i = true) {i : Int} : ∀ {k : Nat}, 0 ≤ i → i < k → f i = false → g i = true → cnB f k + 1 ≤ cnB g k
  | 0, h0, h1, _, _ => by omega
  | k + 1, h0, h1, h2, h3 => by
    rw [cnB, cnB]
    by_cases e : i = k
    · subst e
      rw [if_neg (by rw [h2]; simp), if_pos h3]
      have := cnB_le h (k := k)
      omega
    · have ih := cnB_lt h (k := k) h0 (by omega) h2 h3
      by_cases q : f k = true
      · rw [if_pos q, if_pos (h _ q)]
        omega
      · rw [if_neg q]
        split <;> omega
section REA
variable {V : AMem} {a b e : Int} {j k m n r : Nat}
theorem oReach_V (hV : VaV V) : VaV (oReach V a b).2 := by
  unfold oReach
  repeat' split
  all_goals first
    | exact hV
    | exact rB_V hV
theorem rK_m (h : rK V a k b = true) : rK V a (k + 1) b = true := by
  rw [rK, h]
  rfl
theorem rK_le (hjk : j ≤ k) (h : rK V a j b = true) : rK V a k b = true := by
  induction k with
  | zero =>
    rw [show j = 0 by omega] at h
    exact h
  | succ k ih =>
    by_cases q : j = k + 1
    · rw [← q]
      exact h
    · exact rK_m (ih (by omega))
theorem rK_e (h0 : 0 ≤ e) (h1 : e < V 0 1) (h : rK V a k (V 2 e) = true) : rK V a (k + 1) (V 3 e) = true := by
  rw [rK, Bool.or_eq_true]
  right
  refine anB_t.mpr ⟨e, h0, by omega, ?_⟩
  simp [h]
theorem rK_u (h : rK V a (k + 1) b = true) : rK V a k b = true ∨ ∃ e, 0 ≤ e ∧ e < V 0 1 ∧ V 3 e = b ∧ rK V a k (V 2 e) = true := by
  rw [rK, Bool.or_eq_true] at h
  rcases h with h | h
  · exact Or.inl h
  · obtain ⟨e, h0, h1, h2⟩ := anB_t.mp h
    simp only [Bool.and_eq_true, decide_eq_true_eq] at h2
    exact Or.inr ⟨e, h0, by omega, h2.1, h2.2⟩
theorem rK_r (hV : VaV V) (ha0 : 0 ≤ a) (ha1 : a < V 0 0) : ∀ {k : Nat} {b : Int}, rK V a k b = true → 0 ≤ b ∧ b < V 0 0
  | 0, b, h => by
    simp only [rK, decide_eq_true_eq] at h
    omega
  | k + 1, b, h => by
    rcases rK_u h with h | ⟨e, h0, h1, h2, h3⟩
    · exact rK_r hV ha0 ha1 h
    · have := (hV.2.2.2.2.2.1 e h0 h1).2.1
      omega
theorem rK_st (hst : ∀ b, rK V a (k + 1) b = rK V a k b) : ∀ d b, rK V a (k + d) b = rK V a k b := by
  intro d
  induction d with
  | zero => intro b; rfl
  | succ d ih =>
    intro b
    rw [← hst b, show k + (d + 1) = (k + d) + 1 by omega, rK, rK, ih b, anB_cong (fun e _ _ => by rw [ih (V 2 e)])]
theorem rK_n (hV : VaV V) (ha0 : 0 ≤ a) (ha1 : a < V 0 0) (h : rK V a m b = true) : rK V a (V 0 0).toNat b = true := by
  have hcnt : ∀ k, (∃ j, j ≤ k ∧ ∀ b, rK V a (j + 1) b = rK V a j b) ∨ (k : Int) + 1 ≤ cnB (rK V a k) (V 0 0).toNat := by
    intro k
    induction k with
    | zero =>
      right
      have := cnB_lt (f := fun _ => false) (g := rK V a 0) (fun i h => by cases h) (i := a) (k := (V 0 0).toNat) ha0 (by omega) rfl (by simp [rK])
      have h2 := cnB_b (f := fun _ => false) (k := (V 0 0).toNat)
      omega
    | succ k ih =>
      rcases ih with ⟨j, j1, j2⟩ | ih
      · exact Or.inl ⟨j, by omega, j2⟩
      · by_cases hs : ∀ b, rK V a (k + 1) b = rK V a k b
        · exact Or.inl ⟨k, by omega, hs⟩
        · right
          obtain ⟨b, hb⟩ : ∃ b, ¬ (rK V a (k + 1) b = rK V a k b) := by
            by_cases hx : ∃ b, ¬ (rK V a (k + 1) b = rK V a k b)
            · exact hx
            · exact absurd (fun b => Decidable.byContradiction (fun q => hx ⟨b, q⟩)) hs
          cases e1 : rK V a k b with
          | true =>
            rw [e1, rK_m e1] at hb
            exact absurd rfl hb
          | false =>
            cases e2 : rK V a (k + 1) b with
            | false =>
              rw [e1, e2] at hb
              exact absurd rfl hb
            | true =>
              have hr := rK_r hV ha0 ha1 e2
              have := cnB_lt (f := rK V a k) (g := rK V a (k + 1)) (fun i h => rK_m h) (i := b) (k := (V 0 0).toNat) hr.1 (by omega) e1 e2
              omega
  rcases hcnt (V 0 0).toNat with ⟨j, j1, j2⟩ | hq
  · by_cases q : m ≤ j
    · exact rK_le (by omega) h
    · have := rK_st j2 (m - j) b
      rw [show j + (m - j) = m by omega, h] at this
      exact rK_le j1 this.symm
  · have := cnB_b (f := rK V a (V 0 0).toNat) (k := (V 0 0).toNat)
    omega
theorem dsR_b : ∀ {r : Nat}, (dsR V a r b = -201 ∧ rK V a r b = false) ∨ (0 ≤ dsR V a r b ∧ dsR V a r b ≤ r ∧ rK V a (dsR V a r b).toNat b = true ∧ ∀ k : Nat, (k : Int) < dsR V a r b → rK V a k b = false)
  | 0 => by
    rw [dsR]
    by_cases q : rK V a 0 b = true
    · rw [if_pos q]
      exact Or.inr ⟨by omega, by omega, q, fun k hk => by omega⟩
    · rw [if_neg q]
      exact Or.inl ⟨rfl, Bool.eq_false_iff.mpr q⟩
  | r + 1 => by
    rw [dsR]
    rcases dsR_b (r := r) with h | h
    · rw [if_neg (by rw [h.1]; simp)]
      by_cases q : rK V a (r + 1) b = true
      · rw [if_pos q]
        refine Or.inr ⟨by omega, by omega, ?_, fun k hk => ?_⟩
        · rw [show ((r : Int) + 1).toNat = r + 1 by omega]
          exact q
        · cases e1 : rK V a k b with
          | false => rfl
          | true =>
            have := rK_le (k := r) (by omega) e1
            rw [h.2] at this
            cases this
      · rw [if_neg q]
        exact Or.inl ⟨rfl, Bool.eq_false_iff.mpr q⟩
    · rw [if_pos (by omega)]
      exact Or.inr ⟨h.1, by omega, h.2.2⟩
theorem dsR_t (h : rK V a k b = true) (hk : k ≤ r) : 0 ≤ dsR V a r b ∧ dsR V a r b ≤ k := by
  rcases dsR_b (V := V) (a := a) (b := b) (r := r) with q | q
  · have := rK_le hk h
    rw [q.2] at this
    cases this
  · refine ⟨q.1, ?_⟩
    by_cases q2 : dsR V a r b ≤ k
    · exact q2
    · have := q.2.2.2 k (by omega)
      rw [h] at this
      cases this
end REA
