section TAI2
variable {L : Nat} {V W X g : AMem} {a b bt c d e f i j kd n p q r t w x : Int}
theorem cM_sb4 (hP : RfP W i g) (hO : RfO X g) (h0 : 0 ≤ W 0 0) (h9 : W 0 0 ≤ 9) (x0 : 0 ≤ X 0 0) (x9 : X 0 0 ≤ 9) : ∀ (k : Nat) (n : Int) (x y : AVal), 0 ≤ n → n ≤ 9 → 9 < n + k → jM_sameBack_4 L n 1 x y g = some (sbK W X k n, g)
  | 0, n, x, y, q0, q9, q1 => by omega
  | k + 1, n, x, y, q0, q9, q1 => by
    have e10 : g 137 10 = W 0 0 := hP.1
    have e16 : g 137 16 = X 0 0 := hO.1
    rw [jM_sameBack_4_eq, if_neg (by omega), e10, e16, sbK]
    by_cases c1 : W 0 0 ≤ n
    · rw [if_pos c1, if_pos c1]
    rw [if_neg c1, if_neg c1]
    by_cases c2 : X 0 0 ≤ n
    · rw [if_pos c2, if_pos c2]
    rw [if_neg c2, if_neg c2]
    have i1 : iw (iw (W 0 0 - 1) - n) = W 0 0 - 1 - n := by rw [iw_s (show -2147483648 ≤ W 0 0 - 1 ∧ W 0 0 - 1 < 2147483648 by omega), iw_n (by omega) (by omega)]
    have i2 : iw (iw (X 0 0 - 1) - n) = X 0 0 - 1 - n := by rw [iw_s (show -2147483648 ≤ X 0 0 - 1 ∧ X 0 0 - 1 < 2147483648 by omega), iw_n (by omega) (by omega)]
    have hk := hP.2.1 (W 0 0 - 1 - n) (by omega) (by omega)
    have hx := hO.2 (X 0 0 - 1 - n) (by omega) (by omega)
    have b1 : 0 ≤ W 0 0 - 1 - n ∧ W 0 0 - 1 - n < 24 := by omega
    have b2 : 0 ≤ X 0 0 - 1 - n ∧ X 0 0 - 1 - n < 24 := by omega
    have st0 : ∀ x y : AVal, jM_sameBack_4 L (iw (n + 0)) 0 x y g = some (n, g) := fun x y => by
      rw [jM_sameBack_4_eq, if_pos rfl, iw_n (by omega) (by omega)]
      simp
    rw [i1, i2, if_pos b1, if_pos b2, if_pos b1, if_pos b2, if_pos b1, if_pos b2]
    by_cases c3 : W 1 (W 0 0 - 1 - n) = X 1 (X 0 0 - 1 - n)
    · rw [if_neg (by rw [hk.1, hx.1]; simp [c3])]
      by_cases c4 : W 2 (W 0 0 - 1 - n) = X 2 (X 0 0 - 1 - n)
      · rw [if_neg (by rw [hk.2.1, hx.2.1]; simp [c4])]
        by_cases c5 : W 3 (W 0 0 - 1 - n) = X 3 (X 0 0 - 1 - n)
        · rw [if_neg (by rw [hk.2.2, hx.2.2]; simp [c5]), if_pos ⟨c3, c4, c5⟩, iw_n (by omega) (by omega)]
          exact cM_sb4 hP hO h0 h9 x0 x9 k (n + 1) _ _ (by omega) (by omega) (by omega)
        · rw [if_pos (by rw [hk.2.2, hx.2.2]; exact c5), if_neg (fun h => c5 h.2.2), st0]
      · rw [if_pos (by rw [hk.2.1, hx.2.1]; exact c4), if_neg (fun h => c4 h.2.1), st0]
    · rw [if_pos (by rw [hk.1, hx.1]; exact c3), if_neg (fun h => c3 h.1), st0]
theorem cM_sameBack (hP : RfP W i g) (hO : RfO X g) (h0 : 0 ≤ W 0 0) (h9 : W 0 0 ≤ 9) (x0 : 0 ≤ X 0 0) (x9 : X 0 0 ≤ 9) : jM_sameBack L g = some (sbK W X 10 0, g) := by
  rw [jM_sameBack_eq]
  exact cM_sb4 hP hO h0 h9 x0 x9 10 0 vU vU (by omega) (by omega) (by omega)
end TAI2
