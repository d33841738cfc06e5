/-! the law: its two makers, what holds at the head of its walk -/
def r132 : List AVal × (List AShp × List AOp) := (cx 3000 134 0 [vR 137] [] (r90.2.1 ++ [(10, 28, List.replicate 28 0)]) ((137, none) :: r90.2.2)).getD ([], [], [])
def oL : List AOp := r132.2.2
theorem r132_ok : ((cx 3000 134 0 [vR 137] [] (r90.2.1 ++ [(10, 28, List.replicate 28 0)]) ((137, none) :: r90.2.2)).isSome && r132.1.isEmpty && decide (r132.2.1 = SHT)) = true := by decide +kernel
theorem cx_get {α : Type} {q : Option α} {d : α} (h : q.isSome = true) : q = some (q.getD d) := by
  cases q with
  | none => cases h
  | some a => rfl
theorem mk90 {L : Nat} {g : AMem} : RF 92 0 [vR 2] [] (zS L cB) (fO [(2, none)] g) = some ([], zS L r90.2.1, fO r90.2.2 g) := by
  have h := r90_ok
  simp only [Bool.and_eq_true, decide_eq_true_eq] at h
  have e : r90.1 = [] := List.isEmpty_iff.mp h.1.2
  have k := cx_ok (L := L) (g := g) _ _ _ _ _ _ _ _ (cx_get (d := ([], [], [])) h.1.1)
  rw [show (cx 3000 92 0 [vR 2] [] cB [(2, none)]).getD ([], [], []) = r90 from rfl, e] at k
  exact k
theorem mk132 {L : Nat} {g : AMem} : RF 134 0 [vR 137] [] (zS L (r90.2.1 ++ [(10, 28, List.replicate 28 0)])) (fO ((137, none) :: r90.2.2) g) = some ([], SH L, fO oL g) := by
  have h := r132_ok
  simp only [Bool.and_eq_true, decide_eq_true_eq] at h
  have e : r132.1 = [] := List.isEmpty_iff.mp h.1.2
  have k := cx_ok (L := L) (g := g) _ _ _ _ _ _ _ _ (cx_get (d := ([], [], [])) h.1.1)
  rw [show (cx 3000 134 0 [vR 137] [] (r90.2.1 ++ [(10, 28, List.replicate 28 0)]) ((137, none) :: r90.2.2)).getD ([], [], []) = r132 from rfl, e, h.2] at k
  exact k
theorem r90_l : r90.2.1.length = 135 := by
  have h := r90_ok
  simp only [Bool.and_eq_true, decide_eq_true_eq] at h
  exact h.2
theorem law_start {L : Nat} {g : AMem} : RF 226 0 [vR 1, vU, vU, vU] [] (zS L []) g = RF 226 18 [vR 1, vR 2, vR 137, vI 0] [] (SH L) (fO oL g) := by
  rw [m_new (g := g) (N := 0) (r := 2) (pc' := 3) (c' := cB) (g' := fO [(2, none)] g) k226_0 rfl rfl rfl rfl rfl]
  rw [m_row (pc' := 4) (ls' := [vR 1, vU, vU, vU]) (st' := [vR 2, vR 2]) k226_3 rfl rfl]
  rw [m_call (pc' := 7) (ls0 := [vR 2]) (st' := [vR 2]) k226_4 rfl (hy4 rfl rfl rfl rfl) rfl rfl rfl mk90]
  rw [m_row (pc' := 8) (ls' := [vR 1, vR 2, vU, vU]) (st' := []) k226_7 rfl rfl]
  rw [m_new (c' := r90.2.1 ++ [(10, 28, List.replicate 28 0)]) (N := 135) (r := 137) (pc' := 11) (g' := fO ((137, none) :: r90.2.2) g) k226_8 r90_l rfl rfl rfl rfl]
  rw [m_row (pc' := 12) (ls' := [vR 1, vR 2, vU, vU]) (st' := [vR 137, vR 137]) k226_11 rfl rfl]
  rw [m_call (pc' := 15) (ls0 := [vR 137]) (st' := [vR 137]) k226_12 rfl (hy4 rfl rfl rfl rfl) rfl rfl rfl mk132]
  rw [RF_row (pc' := 16) (ls' := [vR 1, vR 2, vR 137, vU]) (st' := []) (sh' := SH L) (g' := fO oL g) k226_15 rfl rfl]
  rw [RF_row (pc' := 17) (ls' := [vR 1, vR 2, vR 137, vU]) (st' := [vI 0]) (sh' := SH L) (g' := fO oL g) k226_16 rfl rfl]
  rw [RF_row (pc' := 18) (ls' := [vR 1, vR 2, vR 137, vI 0]) (st' := []) (sh' := SH L) (g' := fO oL g) k226_17 rfl rfl]
/-- the state of a document that holds nothing -/
def V00 : AMem := fun _ _ => 0
theorem oL_f : (decide (rO oL 2 0 = some 3) && decide (rO oL 2 1 = some 58) && decide (rO oL 3 2 = some 0) && decide (rO oL 3 3 = some 0) && decide (rO oL 2 10 = some 0) && decide (rO oL 2 11 = some 0) && decide (rO oL 2 12 = some 0) && decide (rO oL 2 13 = some 0) && decide (rO oL 113 1 = some 0)) = true := by decide +kernel
theorem oL_m : (decide (rO oL 137 1 = some 0) && decide (rO oL 137 2 = some 0) && decide (rO oL 137 3 = some 0) && decide (rO oL 138 0 = some 0) && decide (rO oL 138 1 = some 0) && decide (rO oL 138 2 = some 0) && decide (rO oL 137 24 = some 0)) = true := by decide +kernel
theorem oL_s : (decide (rO oL 133 32 = some 0) && decide (rO oL 133 33 = some 0) && decide (rO oL 133 34 = some 0) && decide (rO oL 133 35 = some 0) && decide (rO oL 153 32 = some 0) && decide (rO oL 153 33 = some 0) && decide (rO oL 153 34 = some 0) && decide (rO oL 153 35 = some 0)) = true := by decide +kernel
theorem oL_1 : oL.all (fun q => !decide ((1 : Int) = q.1)) = true := by decide +kernel
/-- what holds at the head of the law's walk -/
def Inv (L : Nat) (xs : Nat → Int32) (V g : AMem) : Prop := VaV V ∧ (∃ t, ClV V t g) ∧ RfV V g ∧ (∀ k, 32 ≤ k → k < 36 → g 153 k = g 133 k) ∧ ∀ k : Int, 0 ≤ k → k < L → g 1 k = (xs k.toNat).toInt
theorem V00_V : VaV V00 := by
  refine ⟨⟨by decide, by decide⟩, ⟨by decide, by decide⟩, ⟨by decide, by decide⟩, ⟨by decide, by decide⟩, fun b h0 h1 => ?_, fun e h0 h1 => ?_, fun i h0 h1 => ?_⟩
  · exact absurd h1 (by show ¬ b < 0; omega)
  · exact absurd h1 (by show ¬ e < 0; omega)
  · exact absurd h1 (by show ¬ i < 0; omega)
theorem inv_0 {L : Nat} {xs : Nat → Int32} : Inv L xs V00 (fO oL (gS L xs)) := by
  have f := oL_f
  have m := oL_m
  have s := oL_s
  simp only [Bool.and_eq_true, decide_eq_true_eq] at f m s
  obtain ⟨⟨⟨⟨⟨⟨⟨⟨f1, f2⟩, f3⟩, f4⟩, f5⟩, f6⟩, f7⟩, f8⟩, f9⟩ := f
  obtain ⟨⟨⟨⟨⟨⟨m1, m2⟩, m3⟩, m4⟩, m5⟩, m6⟩, m7⟩ := m
  obtain ⟨⟨⟨⟨⟨⟨⟨s1, s2⟩, s3⟩, s4⟩, s5⟩, s6⟩, s7⟩, s8⟩ := s
  refine ⟨V00_V, ⟨3, Or.inl rfl, ⟨rO_some f1, rO_some f2⟩, ⟨⟨rO_some f3, rO_some f4⟩, fun b h0 h1 => ?_, fun e h0 h1 => ?_⟩, ⟨rO_some f5, rO_some f6, rO_some f7, rO_some f8, rO_some f9⟩, fun i h0 h1 => ?_⟩, ⟨⟨rO_some m1, rO_some m2, rO_some m3, rO_some m4, rO_some m5, rO_some m6, rO_some m7⟩, fun b h0 h1 => ?_, fun e h0 h1 => ?_, fun i h0 h1 => ?_⟩, fun k h0 h1 => ?_, fun k h0 h1 => ?_⟩
  · exact absurd h1 (by show ¬ b < 0; omega)
  · exact absurd h1 (by show ¬ e < 0; omega)
  · exact absurd h1 (by show ¬ i < 0; omega)
  · exact absurd h1 (by show ¬ b < 0; omega)
  · exact absurd h1 (by show ¬ e < 0; omega)
  · exact absurd h1 (by show ¬ i < 0; omega)
  · have hk : k = 32 ∨ k = 33 ∨ k = 34 ∨ k = 35 := by omega
    rcases hk with rfl | rfl | rfl | rfl
    · rw [rO_some s1, rO_some s5]
    · rw [rO_some s2, rO_some s6]
    · rw [rO_some s3, rO_some s7]
    · rw [rO_some s4, rO_some s8]
  · rw [fO_of (fun q hq => ?_)]
    · unfold gS
      rw [if_pos ⟨rfl, h0, h1⟩]
    · have := List.all_eq_true.mp oL_1 q hq
      simpa using this
