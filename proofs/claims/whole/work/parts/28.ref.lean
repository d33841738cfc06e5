/-! the reference: calls that change the state -/
def Lo (g g' : AMem) : Prop := ∀ a k, (a < 137 ∨ a = 153 ∨ a = 157 ∨ (a = 137 ∧ k = 25)) → g' a k = g a k
theorem Lo_r {g : AMem} : Lo g g := fun _ _ _ => rfl
theorem Lo_t {g h j : AMem} (h1 : Lo g h) (h2 : Lo h j) : Lo g j := fun a k q => by rw [h2 a k q, h1 a k q]
theorem Lo_u {g h : AMem} {a k x : Int} (h1 : Lo g h) (h2 : 137 ≤ a ∧ a ≠ 153 ∧ a ≠ 157 ∧ ¬ (a = 137 ∧ k = 25)) : Lo g (up h a k x) := fun a' k' q => by rw [up_n (by omega), h1 a' k' q]
/-- what of the reference's memory is not the document's state -/
def scR (a k : Int) : Prop := (145 ≤ a ∧ a ≤ 155 ∧ a ≠ 153) ∨ (a = 137 ∧ (k = 10 ∨ k = 16))
def Sc (g g' : AMem) : Prop := ∀ a k, ¬ scR a k → g' a k = g a k
theorem Sc_r {g : AMem} : Sc g g := fun _ _ _ => rfl
theorem Sc_t {g h j : AMem} (h1 : Sc g h) (h2 : Sc h j) : Sc g j := fun a k q => by rw [h2 a k q, h1 a k q]
theorem Sc_u {g h : AMem} {a k x : Int} (h1 : Sc g h) (h2 : scR a k) : Sc g (up h a k x) := fun a' k' q => by
  rw [up_n, h1 a' k' q]
  by_cases e : a' = a
  · right
    intro e2
    rw [e, e2] at q
    exact q h2
  · left
    exact e
theorem Sc_lo {g h : AMem} (h1 : Sc g h) : Lo g h := fun a k q => h1 a k (by unfold scR; omega)
theorem RfV_k {V g h : AMem} (hR : RfV V g) (n : ∀ a k, (a = 137 ∧ (k = 1 ∨ k = 2 ∨ k = 3 ∨ k = 24)) ∨ (138 ≤ a ∧ a ≤ 144) ∨ a = 156 → h a k = g a k) : RfV V h := by
  obtain ⟨h0, h1, h2, h3⟩ := hR
  refine ⟨?_, fun b hb0 hb1 => ?_, fun e he0 he1 => ?_, fun i hi0 hi1 => ?_⟩
  · rw [n _ _ (by omega), n _ _ (by omega), n _ _ (by omega), n _ _ (by omega), n _ _ (by omega), n _ _ (by omega), n _ _ (by omega)]
    exact h0
  · have hB := h1 b hb0 hb1
    rw [n _ _ (by omega)]
    refine ⟨hB.1, fun i hi0 hi1 => ?_⟩
    rw [n _ _ (by omega)]
    exact hB.2 i hi0 hi1
  · have hE := h2 e he0 he1
    rw [n _ _ (by omega), n _ _ (by omega), n _ _ (by omega)]
    refine ⟨hE.1, hE.2.1, hE.2.2.1, fun i hi0 hi1 => ?_⟩
    rw [n _ _ (by omega)]
    exact hE.2.2.2 i hi0 hi1
  · rw [n _ _ (by omega)]
    exact h3 i hi0 hi1
theorem RfV_sc {V g h : AMem} (hR : RfV V g) (hS : Sc g h) : RfV V h := RfV_k hR (fun a k q => hS a k (by unfold scR; omega))
/-- less: only the plan -/
def spR (a k : Int) : Prop := (145 ≤ a ∧ a ≤ 149) ∨ (a = 137 ∧ k = 10)
def Sp (g g' : AMem) : Prop := ∀ a k, ¬ spR a k → g' a k = g a k
theorem Sp_sc {g h : AMem} (h1 : Sp g h) : Sc g h := fun a k q => h1 a k (by unfold scR at q; unfold spR; omega)
theorem Sp_r {g : AMem} : Sp g g := fun _ _ _ => rfl
theorem Sp_t {g h j : AMem} (h1 : Sp g h) (h2 : Sp h j) : Sp g j := fun a k q => by rw [h2 a k q, h1 a k q]
theorem Sp_u {g h : AMem} {a k x : Int} (h1 : Sp g h) (h2 : spR a k) : Sp g (up h a k x) := fun a' k' q => by
  rw [up_n, h1 a' k' q]
  by_cases e : a' = a
  · right
    intro e2
    rw [e, e2] at q
    exact q h2
  · left
    exact e
theorem Sp_lo {g h : AMem} (h1 : Sp g h) : Lo g h := Sc_lo (Sp_sc h1)
theorem RfV_sp {V g h : AMem} (hR : RfV V g) (hS : Sp g h) : RfV V h := RfV_sc hR (Sp_sc hS)
section REF3
variable {L : Nat} {V g : AMem} {a b c e f i k r t w : Int}
theorem RfV_0 (hR : RfV V g) (h : k = 0 ∨ k = 1 ∨ k = 2) : RfV (up V 0 (3 + k) w) (up g 138 k w) := by
  obtain ⟨h0, h1, h2, h3⟩ := hR
  have n : ∀ a j, a ≠ 138 → up g 138 k w a j = g a j := fun a j h => up_n (by omega)
  have m : ∀ a j, a ≠ 0 ∨ j < 3 ∨ 5 < j → up V 0 (3 + k) w a j = V a j := fun a j h => up_n (by omega)
  refine ⟨⟨?_, ?_, ?_, ?_, ?_, ?_, ?_⟩, fun b hb0 hb1 => ?_, fun e he0 he1 => ?_, fun i hi0 hi1 => ?_⟩
  · rw [n _ _ (by omega), m _ _ (by omega)]; exact h0.1
  · rw [n _ _ (by omega), m _ _ (by omega)]; exact h0.2.1
  · rw [n _ _ (by omega), m _ _ (by omega)]; exact h0.2.2.1
  · by_cases q : k = 0
    · subst q; rw [up_s]; exact (up_s (g := V) (a := 0) (k := 3) (x := w)).symm
    · rw [up_n (by omega), up_n (by omega)]; exact h0.2.2.2.1
  · by_cases q : k = 1
    · subst q; rw [up_s]; exact (up_s (g := V) (a := 0) (k := 4) (x := w)).symm
    · rw [up_n (by omega), up_n (by omega)]; exact h0.2.2.2.2.1
  · by_cases q : k = 2
    · subst q; rw [up_s]; exact (up_s (g := V) (a := 0) (k := 5) (x := w)).symm
    · rw [up_n (by omega), up_n (by omega)]; exact h0.2.2.2.2.2.1
  · rw [n _ _ (by omega), m _ _ (by omega)]; exact h0.2.2.2.2.2.2
  · rw [m _ _ (by omega)] at hb1
    have hB := h1 b hb0 hb1
    rw [n _ _ (by omega), m _ _ (by omega)]
    refine ⟨hB.1, fun i hi0 hi1 => ?_⟩
    rw [n _ _ (by omega), m _ _ (by omega)]
    exact hB.2 i hi0 hi1
  · rw [m _ _ (by omega)] at he1
    have hE := h2 e he0 he1
    rw [n _ _ (by omega), n _ _ (by omega), n _ _ (by omega), m 2 _ (by omega), m 3 _ (by omega), m 4 _ (by omega), m 1 _ (by omega)]
    refine ⟨hE.1, hE.2.1, hE.2.2.1, fun i hi0 hi1 => ?_⟩
    rw [n _ _ (by omega)]
    by_cases q : e = -20
    · omega
    · rw [m _ _ (by omega)]
      exact hE.2.2.2 i hi0 hi1
  · rw [m _ _ (by omega)] at hi1
    rw [n _ _ (by omega), m _ _ (by omega)]
    exact h3 i hi0 hi1
theorem cM_newBlock (hV : VaV V) (hR : RfV V g) (h : V 0 0 < 10) : ∃ g', jM_newBlock L g = some (V 0 0, g') ∧ RfV (nbV V) g' ∧ Lo g g' := by
  have h0 := hV.1
  have e1 : g 137 1 = V 0 0 := hR.1.1
  refine ⟨up (up g 139 (V 0 0) 0) 137 1 (V 0 0 + 1), ?_, ?_, Lo_u (Lo_u Lo_r (by omega)) (by omega)⟩
  · rw [jM_newBlock_eq, e1, if_pos (by omega), up_s, up_n (by omega), e1, iw_n (show 0 ≤ V 0 0 + 1 by omega) (by omega), iw_n (by omega) (by omega)]
    rw [show V 0 0 + 1 - 1 = V 0 0 by omega]
  · obtain ⟨r0, r1, r2, r3⟩ := hR
    have n : ∀ a j, a ≠ 139 → ¬ (a = 137 ∧ j = 1) → up (up g 139 (V 0 0) 0) 137 1 (V 0 0 + 1) a j = g a j := fun a j h h2 => by rw [up_n (by omega), up_n (by omega)]
    refine ⟨⟨?_, ?_, ?_, ?_, ?_, ?_, ?_⟩, fun b hb0 hb1 => ?_, fun e he0 he1 => ?_, fun i hi0 hi1 => ?_⟩
    · rw [up_s, nb_0]
    · rw [n _ _ (by omega) (by omega), nb_n (by omega) (by omega)]; exact r0.2.1
    · rw [n _ _ (by omega) (by omega), nb_n (by omega) (by omega)]; exact r0.2.2.1
    · rw [n _ _ (by omega) (by omega), nb_n (by omega) (by omega)]; exact r0.2.2.2.1
    · rw [n _ _ (by omega) (by omega), nb_n (by omega) (by omega)]; exact r0.2.2.2.2.1
    · rw [n _ _ (by omega) (by omega), nb_n (by omega) (by omega)]; exact r0.2.2.2.2.2.1
    · rw [n _ _ (by omega) (by omega), nb_n (by omega) (by omega)]; exact r0.2.2.2.2.2.2
    · rw [nb_0] at hb1
      by_cases q : b = V 0 0
      · rw [q, nb_1, up_n (by omega), up_s]
        exact ⟨rfl, fun i hi0 hi1 => by omega⟩
      · have hB := r1 b hb0 (by omega)
        rw [nb_n (a := 1) (by omega) (by omega), up_n (by omega), up_n (by omega)]
        refine ⟨hB.1, fun i hi0 hi1 => ?_⟩
        rw [n _ _ (by omega) (by omega), nb_n (by omega) (by omega)]
        exact hB.2 i hi0 hi1
    · rw [nb_n (by omega) (by omega)] at he1
      have hE := r2 e he0 he1
      have hE2 := hV.2.2.2.2.2.1 e he0 he1
      rw [n _ _ (by omega) (by omega), n _ _ (by omega) (by omega), n _ _ (by omega) (by omega), nb_n (a := 2) (by omega) (by omega), nb_n (a := 3) (by omega) (by omega), nb_n (a := 4) (by omega) (by omega)]
      refine ⟨hE.1, hE.2.1, hE.2.2.1, fun i hi0 hi1 => ?_⟩
      rw [nb_n (a := 1) (by omega) (by omega)] at hi1
      rw [n _ _ (by omega) (by omega), nb_n (by omega) (by omega)]
      exact hE.2.2.2 i hi0 hi1
    · rw [nb_n (by omega) (by omega)] at hi1
      rw [n _ _ (by omega) (by omega), nb_n (by omega) (by omega)]
      exact r3 i hi0 hi1
theorem cM_newParameter (hV : VaV V) (hR : RfV V g) (hb0 : 0 ≤ b) (hb1 : b < V 0 0) (hn : V 1 b < 6) : ∃ g', jM_newParameter L b r g = some (V 1 b, g') ∧ RfV (npV V b r) g' ∧ Lo g g' := by
  have h0 := hV.1
  have h1 := hV.2.1
  have hm := (hV.2.2.2.2.1 b hb0 hb1).1
  obtain ⟨r0, r1, r2, r3⟩ := hR
  have e1 : g 139 b = V 1 b := (r1 b hb0 hb1).1
  rw [jM_newParameter_eq, if_pos (by omega), e1, iw_n (show 0 ≤ 6 * b by omega) (by omega), iw_n (show 0 ≤ 6 * b + V 1 b by omega) (by omega), if_pos (by omega), if_pos (by omega), if_pos (by omega), up_n (show (139 : Int) ≠ 140 ∨ b ≠ 6 * b + V 1 b by omega), e1, iw_n (by omega) (by omega)]
  refine lpx (F := fun i h => jM_newParameter_32 L b r (V 1 b) i h) (I := fun i h => (∀ a k, a ≠ 144 → h a k = up (up g 140 (6 * b + V 1 b) r) 139 b (V 1 b + 1) a k) ∧ ∀ e j, 0 ≤ e → 0 ≤ j → j < 6 → h 144 (6 * e + j) = if e < i ∧ V 3 e = b ∧ j = V 1 b then r else g 144 (6 * e + j)) (P := fun q => ∃ g', q = some (V 1 b, g') ∧ RfV (npV V b r) g' ∧ Lo g g') (n := V 0 1) ?_ ?_ 0 _ (Int.le_refl _) h1.1 ⟨fun a k _ => rfl, fun e j q0 q1 q2 => by rw [if_neg (by omega), up_n (by omega), up_n (by omega)]⟩
  · intro i h hi0 hi1 hI ih
    have e2 : h 137 2 = V 0 1 := by rw [hI.1 _ _ (by omega), up_n (by omega), up_n (by omega)]; exact r0.2.1
    have e3 : h 142 i = V 3 i := by rw [hI.1 _ _ (by omega), up_n (by omega), up_n (by omega)]; exact (r2 i hi0 hi1).2.1
    rw [jM_newParameter_32_eq, e2, if_neg (by omega), if_pos (by omega), e3, iw_n (show 0 ≤ i + 1 by omega) (by omega)]
    by_cases q : V 3 i = b
    · rw [if_neg (by omega), iw_n (show 0 ≤ 6 * i by omega) (by omega), iw_n (show 0 ≤ 6 * i + V 1 b by omega) (by omega), if_pos (by omega)]
      refine ih _ ⟨fun a k qa => by rw [up_n (by omega), hI.1 a k qa], fun e j q0 q1 q2 => ?_⟩
      by_cases q3 : e = i ∧ j = V 1 b
      · rw [q3.1, q3.2, up_s, if_pos ⟨by omega, q, rfl⟩]
      · rw [up_n (by omega), hI.2 e j q0 q1 q2]
        by_cases q4 : e < i ∧ V 3 e = b ∧ j = V 1 b
        · rw [if_pos q4, if_pos ⟨by omega, q4.2⟩]
        · rw [if_neg q4, if_neg (fun q5 => q4 ⟨by omega, q5.2⟩)]
    · rw [if_pos q]
      refine ih _ ⟨hI.1, fun e j q0 q1 q2 => ?_⟩
      rw [hI.2 e j q0 q1 q2]
      by_cases q4 : e < i ∧ V 3 e = b ∧ j = V 1 b
      · rw [if_pos q4, if_pos ⟨by omega, q4.2⟩]
      · have q6 : V 3 e = b → e ≠ i := fun q7 q8 => q (by rw [← q8]; exact q7)
        rw [if_neg q4, if_neg (fun q5 => q4 ⟨by have := q6 q5.2.1; omega, q5.2⟩)]
  · intro h hI
    have n : ∀ a j, a ≠ 139 → a ≠ 140 → a ≠ 144 → h a j = g a j := fun a j h1 h2 h3 => by rw [hI.1 _ _ h3, up_n (by omega), up_n (by omega)]
    refine ⟨h, ?_, ?_, fun a k q => n a k (by omega) (by omega) (by omega)⟩
    · rw [jM_newParameter_32_eq, n _ _ (by omega) (by omega) (by omega), r0.2.1, if_pos (Int.le_refl _)]
    · have m : ∀ a k, a < 10 → a ≠ 1 → npV V b r a k = V a k := fun a k q q2 => np_b (by omega) (by omega) (by omega)
      refine ⟨?_, fun c hc0 hc1 => ?_, fun e he0 he1 => ?_, fun i hi0 hi1 => ?_⟩
      · rw [n _ _ (by omega) (by omega) (by omega), n _ _ (by omega) (by omega) (by omega), n _ _ (by omega) (by omega) (by omega), n _ _ (by omega) (by omega) (by omega), n _ _ (by omega) (by omega) (by omega), n _ _ (by omega) (by omega) (by omega), n _ _ (by omega) (by omega) (by omega), m _ _ (by omega) (by omega), m _ _ (by omega) (by omega), m _ _ (by omega) (by omega), m _ _ (by omega) (by omega), m _ _ (by omega) (by omega), m _ _ (by omega) (by omega), m _ _ (by omega) (by omega)]
        exact r0
      · rw [m _ _ (by omega) (by omega)] at hc1
        have hB := r1 c hc0 hc1
        have hB2 := (hV.2.2.2.2.1 c hc0 hc1).1
        rw [hI.1 _ _ (by omega)]
        by_cases q : c = b
        · subst q
          rw [np_1 hc0, up_s]
          refine ⟨rfl, fun i hi0 hi1 => ?_⟩
          rw [hI.1 _ _ (by omega), up_n (by omega)]
          by_cases q : i = V 1 c
          · rw [q, up_s, np_r (Or.inl rfl)]
          · rw [up_n (by omega), np_n (by omega) (by omega) hb0]
            exact hB.2 i hi0 (by omega)
        · rw [np_n (a := 1) (by omega) (by omega) hb0, up_n (by omega), up_n (by omega)]
          refine ⟨hB.1, fun i hi0 hi1 => ?_⟩
          rw [hI.1 _ _ (by omega), up_n (by omega), up_n (by omega), np_b (by omega) (by omega) (by omega)]
          exact hB.2 i hi0 hi1
      · rw [m _ _ (by omega) (by omega)] at he1
        have hE := r2 e he0 he1
        have hE2 := hV.2.2.2.2.2.1 e he0 he1
        have hB2 := (hV.2.2.2.2.1 _ hE2.2.1.1 hE2.2.1.2).1
        rw [n _ _ (by omega) (by omega) (by omega), n _ _ (by omega) (by omega) (by omega), n _ _ (by omega) (by omega) (by omega), m 2 _ (by omega) (by omega), m 3 _ (by omega) (by omega), m 4 _ (by omega) (by omega)]
        refine ⟨hE.1, hE.2.1, hE.2.2.1, fun i hi0 hi1 => ?_⟩
        by_cases q : V 3 e = b
        · rw [q, np_1 hb0] at hi1
          rw [hI.2 e i he0 hi0 (by omega)]
          by_cases q2 : i = V 1 b
          · rw [if_pos ⟨he1, q, q2⟩, q2, np_r (Or.inr ⟨by omega, by omega, by rw [show 20 + e - 20 = e by omega]; exact q⟩)]
          · rw [if_neg (fun q3 => q2 q3.2.2), np_n (by omega) (by omega) hb0]
            exact hE.2.2.2 i hi0 (by rw [q]; omega)
        · rw [np_n (a := 1) (by omega) (by omega) hb0] at hi1
          rw [hI.2 e i he0 hi0 (by omega), if_neg (fun q3 => q q3.2.1), np_e (by omega) (by omega) (by rw [show 20 + e - 20 = e by omega]; exact q) (by omega)]
          exact hE.2.2.2 i hi0 hi1
      · rw [m _ _ (by omega) (by omega)] at hi1
        rw [n _ _ (by omega) (by omega) (by omega), m _ _ (by omega) (by omega)]
        exact r3 i hi0 hi1
end REF3
