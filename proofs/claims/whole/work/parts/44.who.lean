/-! the reference's whole -/
section WHO2
variable {L : Nat} {V W g : AMem} {a b bt c d e f i j k kd n p q r t w x : Int}
theorem whA_b (hV : VaV V) (he0 : 0 ≤ e) (he1 : e < V 0 1) : 0 ≤ whA V w e ∧ whA V w e ≤ 81 * 99 := by
  have h1 := coL_b (kd := V 0 2) hV he0 he1
  have h9 := plV_9 (kd := V 0 2) hV he0 he1
  have h0 := h9.1.1
  unfold whA
  repeat' split
  all_goals omega
theorem cM_who1 (hV : VaV V) (hR : RfV V g) (he0 : 0 ≤ e) (he1 : e < V 0 1) (hw0 : 0 ≤ w) (hw1 : w ≤ 3) (ha0 : 0 ≤ a) (ha1 : a ≤ 1000000) {x y z : AVal} : ∃ (x' y' z' : AVal) (g' : AMem), jM_whole_18 L w a e x y z g = jM_whole_18 L w (a + whA V w e) (e + 1) x' y' z' g' ∧ Sp g g' := by
  have hn := hV.2.1
  have hb := whA_b (w := w) hV he0 he1
  have i1 : iw (e + 1) = e + 1 := iw_n (by omega) (by omega)
  have ia : iw (a + whA V w e) = a + whA V w e := iw_n (by omega) (by omega)
  have i0 : iw (0 : Int) = 0 := iw_n (by omega) (by omega)
  have h16 : 0 ≤ e ∧ e < 16 := by omega
  rw [jM_whole_18_eq, hR.1.2.1, if_neg (by omega), cM_isClear hV hR he0 he1, bnd, i1]
  have e10 : ((1 : Int) = 0) = False := by simp
  have e20 : ((2 : Int) = 0) = False := by simp
  have e30 : ((3 : Int) = 0) = False := by simp
  have e21 : ((2 : Int) = 1) = False := by simp
  have e31 : ((3 : Int) = 1) = False := by simp
  have e32 : ((3 : Int) = 2) = False := by simp
  have hw : w = 0 ∨ w = 1 ∨ w = 2 ∨ w = 3 := by omega
  by_cases q : clB V e = true
  · obtain ⟨g1, a1, a2, a3⟩ := cM_costBy (L := L) (kd := g 137 3) hV hR he0 he1
    have hR1 := RfV_sp hR a3
    have h9 := plV_9 (kd := V 0 2) hV he0 he1
    rw [hR.1.2.2.1] at a1 a2
    have e3 : g 137 3 = V 0 2 := hR.1.2.2.1
    have ew : g1 143 e = V 4 e := (hR1.2.2.1 e he0 he1).2.2.1
    have ec := coL_b (kd := V 0 2) hV he0 he1
    have ic : iw (coV V e (V 0 2) * V 4 e) = coV V e (V 0 2) * V 4 e := iw_n ec.1 (by omega)
    have ep : g1 137 10 = plV V e (V 0 2) 0 0 := a2.1
    simp only [q, if_true, e3, a1, bnd, cM_whereOf hV hR1 he0 he1, ep, ew, ic, h16, and_self, if_false]
    rcases hw with rfl | rfl | rfl | rfl
    · have : whA V 0 e = coV V e (V 0 2) * V 4 e := by simp [whA, q]
      rw [this] at ia ⊢
      simp only [ne_eq, not_true_eq_false, not_false_eq_true, e10, e20, e30, e21, e31, e32, if_true, if_false, ia]
      repeat' split
      all_goals exact ⟨_, _, _, g1, rfl, a3⟩
    · by_cases q1 : plV V e (V 0 2) 0 0 ≤ 0
      · have this : whA V 1 e = 0 := by
          unfold whA
          rw [if_pos q, if_neg (by omega), if_pos rfl, if_neg (fun h => by omega)]
        rw [this] at ia ⊢
        simp only [ne_eq, not_true_eq_false, not_false_eq_true, e10, e20, e30, e21, e31, e32, if_true, if_false, q1, ia]
        exact ⟨_, _, _, g1, rfl, a3⟩
      · by_cases q2 : whV V e = 2
        · have this : whA V 1 e = 1 := by
            unfold whA
            rw [if_pos q, if_neg (by omega), if_pos rfl, if_pos ⟨by omega, q2⟩]
          rw [this] at ia ⊢
          simp only [ne_eq, not_true_eq_false, not_false_eq_true, e10, e20, e30, e21, e31, e32, if_true, if_false, q1, q2, ia]
          exact ⟨_, _, _, g1, rfl, a3⟩
        · have this : whA V 1 e = 0 := by
            unfold whA
            rw [if_pos q, if_neg (by omega), if_pos rfl, if_neg (fun h => q2 h.2)]
          rw [this] at ia ⊢
          simp only [ne_eq, not_true_eq_false, not_false_eq_true, e10, e20, e30, e21, e31, e32, if_true, if_false, q1, q2, ia]
          exact ⟨_, _, _, g1, rfl, a3⟩
    · have : whA V 2 e = 0 := by simp [whA, q]
      rw [this] at ia ⊢
      simp only [ne_eq, not_true_eq_false, not_false_eq_true, e10, e20, e30, e21, e31, e32, if_true, if_false, ia]
      repeat' split
      all_goals first
        | omega
        | exact ⟨_, _, _, g1, rfl, a3⟩
    · have : whA V 3 e = plV V e (V 0 2) 0 0 := by simp [whA, q]
      rw [this] at ia ⊢
      simp only [ne_eq, not_true_eq_false, not_false_eq_true, e10, e20, e30, e21, e31, e32, if_true, if_false, ia]
      repeat' split
      all_goals first
        | omega
        | exact ⟨_, _, _, g1, rfl, a3⟩
  · have z0 : ∀ x : Int, 0 * x = 0 := fun x => Int.zero_mul x
    simp only [q, if_false, if_true, h16, and_self, z0, i0]
    rcases hw with rfl | rfl | rfl | rfl
    · have : whA V 0 e = 0 := by simp [whA, q]
      rw [this] at ia ⊢
      simp only [ne_eq, not_true_eq_false, not_false_eq_true, e10, e20, e30, e21, e31, e32, if_true, if_false, ia]
      exact ⟨_, _, _, g, rfl, Sp_r⟩
    · have : whA V 1 e = 0 := by simp [whA, q]
      rw [this] at ia ⊢
      simp only [ne_eq, not_true_eq_false, not_false_eq_true, e10, e20, e30, e21, e31, e32, if_true, if_false, ia]
      exact ⟨_, _, _, g, rfl, Sp_r⟩
    · have : whA V 2 e = 1 := by simp [whA, q]
      rw [this] at ia ⊢
      simp only [ne_eq, not_true_eq_false, not_false_eq_true, e10, e20, e30, e21, e31, e32, if_true, if_false, ia]
      exact ⟨_, _, _, g, rfl, Sp_r⟩
    · have : whA V 3 e = 0 := by simp [whA, q]
      rw [this] at ia ⊢
      simp only [ne_eq, not_true_eq_false, not_false_eq_true, e10, e20, e30, e21, e31, e32, if_true, if_false, ia]
      exact ⟨_, _, _, g, rfl, Sp_r⟩
end WHO2
