/-! the class's graphs change -/
/-- only the cells of a graph -/
def Gt (t : Int) (g g' : AMem) : Prop := ∀ a k, ¬ (t ≤ a ∧ a ≤ t + 54) → g' a k = g a k
section CLG
variable {L : Nat} {V g h : AMem} {a b c e f i j k p r t w x : Int}
theorem Gt_r : Gt t g g := fun _ _ _ => rfl
theorem Gt_t {j : AMem} (h1 : Gt t g h) (h2 : Gt t h j) : Gt t g j := fun a k q => by rw [h2 a k q, h1 a k q]
theorem Gt_u (h1 : Gt t g h) (h2 : t ≤ a ∧ a ≤ t + 54) : Gt t g (up h a k x) := fun a' k' q => by rw [up_n (by omega), h1 a' k' q]
theorem Gt_hi (ht : t = 3 ∨ t = 58) (h1 : Gt t g h) : Hi g h := fun a k q => h1 a k (by omega)
theorem ClV_g {V' : AMem} (hC : ClV V t g) (hS : Gt t g h) (hG : GrV V' t h) (h2 : ∀ k, 2 ≤ k → V' 0 k = V 0 k) (h5 : ∀ i, V' 5 i = V 5 i) : ClV V' t h := by
  obtain ⟨c0, c1, c2, c3, c4⟩ := hC
  refine ⟨c0, by rw [hS _ _ (by omega), hS _ _ (by omega)]; exact c1, hG, ?_, fun i i0 i1 => ?_⟩
  · rw [hS _ _ (by omega), hS _ _ (by omega), hS _ _ (by omega), hS _ _ (by omega), hS _ _ (by omega), h2 _ (by omega), h2 _ (by omega), h2 _ (by omega), h2 _ (by omega), h2 _ (by omega)]
    exact c3
  · rw [h2 _ (by omega)] at i1
    rw [hS _ _ (by omega), h5]
    exact c4 i i0 i1
theorem cG_removeAll (ht : t = 3 ∨ t = 58) : ∃ g', jGr_removeAll L t g = some g' ∧ GrV (oAnew V).2 t g' ∧ Gt t g g' := by
  refine ⟨_, jGr_removeAll_eq L t g (kG' ht), ?_, Gt_u (Gt_u Gt_r (by omega)) (by omega)⟩
  unfold oAnew
  have n0 : up (up V 0 0 0) 0 1 0 0 0 = 0 := by rw [up_n (by omega), up_s]
  have n1 : up (up V 0 0 0) 0 1 0 0 1 = 0 := up_s
  refine ⟨⟨by dsimp only; rw [n0, up_n (by omega), up_s], by dsimp only; rw [n1, up_s]⟩, fun b b0 b1 => ?_, fun e e0 e1 => ?_⟩
  · dsimp only at b1
    rw [n0] at b1
    omega
  · dsimp only at e1
    rw [n1] at e1
    omega
theorem cG_addBlock (hV : VaV V) (ht : t = 3 ∨ t = 58) (hG : GrV V t g) (h : V 0 0 < 10) : ∃ g', jGr_addBlock L t g = some (V 0 0, g') ∧ GrV (nbV V) t g' ∧ Gt t g g' := by
  have h0 := hV.1
  have h1 := hV.2.1
  obtain ⟨r0, r1, r2⟩ := hG
  refine ⟨up (up g (t + 2 + 2 * V 0 0) 1 0) t 2 (V 0 0 + 1), ?_, ⟨⟨?_, ?_⟩, fun b hb0 hb1 => ?_, fun e he0 he1 => ?_⟩, Gt_u (Gt_u Gt_r (by omega)) (by omega)⟩
  · rw [jGr_addBlock_eq L t g (kG' ht), r0.1, if_pos (by omega), if_pos (by omega), up_s, up_n (by omega), r0.1, iw_n (show 0 ≤ V 0 0 + 1 by omega) (by omega), iw_n (by omega) (by omega)]
    rw [show V 0 0 + 1 - 1 = V 0 0 by omega]
  · rw [up_s, nb_0]
  · rw [up_n (by omega), up_n (by omega), nb_n (by omega) (by omega)]; exact r0.2
  · rw [nb_0] at hb1
    by_cases q : b = V 0 0
    · rw [q, nb_1, up_n (by omega), up_s]
      exact ⟨rfl, fun i hi0 hi1 => by omega⟩
    · have hB := r1 b hb0 (by omega)
      rw [nb_n (a := 1) (by omega) (by omega), up_n (by omega), up_n (by omega)]
      refine ⟨hB.1, fun i hi0 hi1 => ?_⟩
      rw [up_n (by omega), up_n (by omega), nb_n (by omega) (by omega)]
      exact hB.2 i hi0 hi1
  · rw [nb_n (by omega) (by omega)] at he1
    have hE := r2 e he0 he1
    have hE2 := hV.2.2.2.2.2.1 e he0 he1
    rw [up_n (by omega), up_n (by omega), up_n (by omega), up_n (by omega), up_n (by omega), up_n (by omega), nb_n (a := 2) (by omega) (by omega), nb_n (a := 3) (by omega) (by omega), nb_n (a := 4) (by omega) (by omega)]
    refine ⟨hE.1, hE.2.1, hE.2.2.1, fun i hi0 hi1 => ?_⟩
    rw [nb_n (a := 1) (by omega) (by omega)] at hi1
    rw [up_n (by omega), up_n (by omega), nb_n (by omega) (by omega)]
    exact hE.2.2.2 i hi0 hi1
theorem cG_addParameter (hV : VaV V) (ht : t = 3 ∨ t = 58) (hG : GrV V t g) (hb0 : 0 ≤ b) (hb1 : b < V 0 0) (hn : V 1 b < 6) : ∃ g', jGr_addParameter L t b r g = some (V 1 b, g') ∧ GrV (npV V b r) t g' ∧ Gt t g g' := by
  have h0 := hV.1
  have h1 := hV.2.1
  have hm := (hV.2.2.2.2.1 b hb0 hb1).1
  have hG' := hG
  obtain ⟨r0, r1, r2⟩ := hG
  have e1 : g (t + 2 + 2 * b) 1 = V 1 b := (r1 b hb0 hb1).1
  have c10 : 0 ≤ b ∧ b < 10 := by omega
  rw [jGr_addParameter_eq L t b r g (kG' ht), cG_hasBlock ht hG', bnd]
  dsimp only
  rw [ifz, if_pos ⟨hb0, hb1⟩, if_pos c10]
  simp only [e1]
  rw [if_pos hn, if_pos c10, if_pos c10, if_pos (by omega), if_pos c10, up_n (show t + 2 + 2 * b ≠ t + 2 + 2 * b + 1 ∨ (1 : Int) ≠ V 1 b by omega), e1, iw_n (show 0 ≤ V 1 b + 1 by omega) (by omega)]
  refine lpx (F := fun i h => jGr_addParameter_66 L t b r (V 1 b) i h) (I := fun i h => (∀ a k, (∀ e, 0 ≤ e → e < V 0 1 → a ≠ t + 23 + 2 * e + 1) → h a k = up (up g (t + 2 + 2 * b + 1) (V 1 b) r) (t + 2 + 2 * b) 1 (V 1 b + 1) a k) ∧ ∀ e j, 0 ≤ e → e < V 0 1 → h (t + 23 + 2 * e + 1) j = if e < i ∧ V 3 e = b ∧ j = V 1 b then r else g (t + 23 + 2 * e + 1) j) (P := fun q => ∃ g', q = some (V 1 b, g') ∧ GrV (npV V b r) t g' ∧ Gt t g g') (n := V 0 1) ?_ ?_ 0 _ (Int.le_refl _) h1.1 ⟨fun a k _ => rfl, fun e j q0 q1 => by rw [if_neg (by omega), up_n (by omega), up_n (by omega)]⟩
  · intro i h hi0 hi1 hI ih
    have e2 : h t 3 = V 0 1 := by rw [hI.1 _ _ (fun e _ _ => by omega), up_n (by omega), up_n (by omega)]; exact r0.2
    have e3 : h (t + 23 + 2 * i) 2 = V 3 i := by rw [hI.1 _ _ (fun e _ _ => by omega), up_n (by omega), up_n (by omega)]; exact (r2 i hi0 hi1).2.1
    have c16 : 0 ≤ i ∧ i < 16 := by omega
    rw [jGr_addParameter_66_eq L t _ _ _ _ h (kG' ht), e2, if_neg (by omega), if_pos c16, e3, iw_n (show 0 ≤ i + 1 by omega) (by omega)]
    by_cases q : V 3 i = b
    · rw [if_neg (by omega), if_pos c16, if_pos (by omega)]
      refine ih _ ⟨fun a k qa => by rw [up_n (by have := qa i hi0 hi1; omega), hI.1 a k qa], fun e j q0 q1 => ?_⟩
      by_cases q3 : e = i ∧ j = V 1 b
      · rw [q3.1, q3.2, up_s, if_pos ⟨by omega, q, rfl⟩]
      · rw [up_n (by omega), hI.2 e j q0 q1]
        by_cases q4 : e < i ∧ V 3 e = b ∧ j = V 1 b
        · rw [if_pos q4, if_pos ⟨by omega, q4.2⟩]
        · rw [if_neg q4, if_neg (fun q5 => q4 ⟨by omega, q5.2⟩)]
    · rw [if_pos q]
      refine ih _ ⟨hI.1, fun e j q0 q1 => ?_⟩
      rw [hI.2 e j q0 q1]
      by_cases q4 : e < i ∧ V 3 e = b ∧ j = V 1 b
      · rw [if_pos q4, if_pos ⟨by omega, q4.2⟩]
      · have q6 : V 3 e = b → e ≠ i := fun q7 q8 => q (by rw [← q8]; exact q7)
        rw [if_neg q4, if_neg (fun q5 => q4 ⟨by have := q6 q5.2.1; omega, q5.2⟩)]
  · intro h hI
    have n : ∀ a j, a ≠ t + 2 + 2 * b → a ≠ t + 2 + 2 * b + 1 → (∀ e, 0 ≤ e → e < V 0 1 → a ≠ t + 23 + 2 * e + 1) → h a j = g a j := fun a j h1 h2 h3 => by rw [hI.1 _ _ h3, up_n (by omega), up_n (by omega)]
    refine ⟨h, ?_, ?_, fun a k q => n a k (by omega) (by omega) (fun e _ _ => by omega)⟩
    · rw [jGr_addParameter_66_eq L t _ _ _ _ h (kG' ht), n _ _ (by omega) (by omega) (fun e _ _ => by omega), r0.2, if_pos (Int.le_refl _)]
    · have m : ∀ a k, a < 10 → a ≠ 1 → npV V b r a k = V a k := fun a k q q2 => np_b (by omega) (by omega) (by omega)
      refine ⟨?_, fun c hc0 hc1 => ?_, fun e he0 he1 => ?_⟩
      · rw [n _ _ (by omega) (by omega) (fun e _ _ => by omega), n _ _ (by omega) (by omega) (fun e _ _ => by omega), m _ _ (by omega) (by omega), m _ _ (by omega) (by omega)]
        exact r0
      · rw [m _ _ (by omega) (by omega)] at hc1
        have hB := r1 c hc0 hc1
        have hB2 := (hV.2.2.2.2.1 c hc0 hc1).1
        rw [hI.1 _ _ (fun e _ _ => by omega)]
        by_cases q : c = b
        · subst q
          rw [np_1 hc0, up_s]
          refine ⟨rfl, fun i hi0 hi1 => ?_⟩
          rw [hI.1 _ _ (fun e _ _ => by omega), up_n (by omega)]
          by_cases q : i = V 1 c
          · rw [q, up_s, np_r (Or.inl rfl)]
          · rw [up_n (by omega), np_n (by omega) (by omega) hb0]
            exact hB.2 i hi0 (by omega)
        · rw [np_n (a := 1) (by omega) (by omega) hb0, up_n (by omega), up_n (by omega)]
          refine ⟨hB.1, fun i hi0 hi1 => ?_⟩
          rw [hI.1 _ _ (fun e _ _ => by omega), up_n (by omega), up_n (by omega), np_b (by omega) (by omega) (by omega)]
          exact hB.2 i hi0 hi1
      · rw [m _ _ (by omega) (by omega)] at he1
        have hE := r2 e he0 he1
        have hE2 := hV.2.2.2.2.2.1 e he0 he1
        have hB2 := (hV.2.2.2.2.1 _ hE2.2.1.1 hE2.2.1.2).1
        rw [n _ _ (by omega) (by omega) (fun e _ _ => by omega), n _ _ (by omega) (by omega) (fun e _ _ => by omega), n _ _ (by omega) (by omega) (fun e _ _ => by omega), m 2 _ (by omega) (by omega), m 3 _ (by omega) (by omega), m 4 _ (by omega) (by omega)]
        refine ⟨hE.1, hE.2.1, hE.2.2.1, fun i hi0 hi1 => ?_⟩
        by_cases q : V 3 e = b
        · rw [q, np_1 hb0] at hi1
          rw [hI.2 e i he0 he1]
          by_cases q2 : i = V 1 b
          · rw [if_pos ⟨he1, q, q2⟩, q2, np_r (Or.inr ⟨by omega, by omega, by rw [show 20 + e - 20 = e by omega]; exact q⟩)]
          · rw [if_neg (fun q3 => q2 q3.2.2), np_n (by omega) (by omega) hb0]
            exact hE.2.2.2 i hi0 (by rw [q]; omega)
        · rw [np_n (a := 1) (by omega) (by omega) hb0] at hi1
          rw [hI.2 e i he0 he1, if_neg (fun q3 => q q3.2.1), np_e (by omega) (by omega) (by rw [show 20 + e - 20 = e by omega]; exact q) (by omega)]
          exact hE.2.2.2 i hi0 hi1
theorem cpy_i {s sp d dp n : Int} (h : a = d ∧ dp ≤ k ∧ k < dp + n) : cpy g s sp d dp n a k = g s (sp + (k - dp)) := if_pos h
theorem cpy_o {s sp d dp n : Int} (h : ¬ (a = d ∧ dp ≤ k ∧ k < dp + n)) : cpy g s sp d dp n a k = g a k := if_neg h
theorem cG_addEdge (hV : VaV V) (ht : t = 3 ∨ t = 58) (hG : GrV V t g) (hf0 : 0 ≤ f) (hf1 : f < V 0 0) (hp0 : 0 ≤ p) (hp1 : p < V 0 0) (hn : V 0 1 < 16) : ∃ g', jGr_addEdge L t f p w g = some (V 0 1, g') ∧ GrV (neV V f p w) t g' ∧ Gt t g g' := by
  have h0 := hV.1
  have h1 := hV.2.1
  have hm := (hV.2.2.2.2.1 p hp0 hp1).1
  have hG' := hG
  obtain ⟨r0, r1, r2⟩ := hG
  have c10 : 0 ≤ p ∧ p < 10 := by omega
  have e2 : g t 3 = V 0 1 := r0.2
  have e4 : up (up (up g (t + 23 + 2 * V 0 1) 1 f) (t + 23 + 2 * V 0 1) 2 p) (t + 23 + 2 * V 0 1) 3 w (t + 2 + 2 * p) 1 = V 1 p := by
    rw [up_n (by omega), up_n (by omega), up_n (by omega)]
    exact (r1 p hp0 hp1).1
  obtain ⟨G, hGd⟩ : ∃ G, G = up (up (up g (t + 23 + 2 * V 0 1) 1 f) (t + 23 + 2 * V 0 1) 2 p) (t + 23 + 2 * V 0 1) 3 w := ⟨_, rfl⟩
  have hGn : ∀ a k, a ≠ t + 23 + 2 * V 0 1 → G a k = g a k := fun a k q => by rw [hGd, up_n (by omega), up_n (by omega), up_n (by omega)]
  have e5 : cpy G (t + 2 + 2 * p + 1) 0 (t + 23 + 2 * V 0 1 + 1) 0 (V 1 p) t 3 = V 0 1 := by
    rw [cpy_o (by omega), hGn _ _ (by omega)]
    exact e2
  rw [jGr_addEdge_eq L t f p w g (kG' ht), cG_hasBlock ht hG', bnd]
  dsimp only
  rw [ifz, if_pos ⟨hf0, hf1⟩, cG_hasBlock ht hG', bnd]
  dsimp only
  rw [ifz, if_pos ⟨hp0, hp1⟩]
  simp only [e2, e4]
  rw [if_pos hn, if_pos (by omega), if_pos c10, if_pos c10, if_pos (by omega), ← hGd, e5, up_s, iw_n (show 0 ≤ V 0 1 + 1 by omega) (by omega), iw_n (by omega) (by omega), show V 0 1 + 1 - 1 = V 0 1 by omega]
  refine ⟨_, rfl, ?_, fun a k q => by rw [up_n (by omega), cpy_o (by omega), hGn _ _ (by omega)]⟩
  have n : ∀ a k, ¬ (a = t ∧ k = 3) → a ≠ t + 23 + 2 * V 0 1 → a ≠ t + 23 + 2 * V 0 1 + 1 → up (cpy G (t + 2 + 2 * p + 1) 0 (t + 23 + 2 * V 0 1 + 1) 0 (V 1 p)) t 3 (V 0 1 + 1) a k = g a k := fun a k q1 q2 q3 => by rw [up_n (by omega), cpy_o (by omega), hGn _ _ q2]
  have n2 : ∀ k, up (cpy G (t + 2 + 2 * p + 1) 0 (t + 23 + 2 * V 0 1 + 1) 0 (V 1 p)) t 3 (V 0 1 + 1) (t + 23 + 2 * V 0 1) k = G (t + 23 + 2 * V 0 1) k := fun k => by rw [up_n (by omega), cpy_o (by omega)]
  have m : ∀ a k, a = 1 ∨ (5 ≤ a ∧ a < 20) → neV V f p w a k = V a k := fun a k q => ne_n (by omega) (by omega) (by omega)
  refine ⟨⟨?_, ?_⟩, fun c hc0 hc1 => ?_, fun e he0 he1 => ?_⟩
  · rw [n _ _ (by omega) (by omega) (by omega), ne_n (by omega) (by omega) (by omega)]
    exact r0.1
  · rw [up_s, ne_0 h1.1]
  · rw [ne_n (by omega) (by omega) (by omega)] at hc1
    have hB := r1 c hc0 hc1
    rw [n _ _ (by omega) (by omega) (by omega), m _ _ (by omega)]
    refine ⟨hB.1, fun i hi0 hi1 => ?_⟩
    rw [n _ _ (by omega) (by omega) (by omega), m _ _ (by omega)]
    exact hB.2 i hi0 hi1
  · rw [ne_0 h1.1] at he1
    by_cases q : e = V 0 1
    · rw [q, ne_2, ne_3, ne_4, n2, n2, n2, hGd]
      refine ⟨by rw [up_n (by omega), up_n (by omega), up_s], by rw [up_n (by omega), up_s], by rw [up_s], fun i hi0 hi1 => ?_⟩
      rw [m _ _ (by omega)] at hi1
      rw [up_n (by omega), cpy_i (by omega), ← hGd, hGn _ _ (by omega), ne_a h1.1 hi0 hi1, show 0 + (i - 0) = i by omega]
      exact (r1 p hp0 hp1).2 i hi0 hi1
    · have hE := r2 e he0 (by omega)
      have hE2 := hV.2.2.2.2.2.1 e he0 (by omega)
      rw [ne_n (a := 2) (by omega) (by omega) (by omega), ne_n (a := 3) (by omega) (by omega) (by omega), ne_n (a := 4) (by omega) (by omega) (by omega), n _ _ (by omega) (by omega) (by omega), n _ _ (by omega) (by omega) (by omega), n _ _ (by omega) (by omega) (by omega)]
      refine ⟨hE.1, hE.2.1, hE.2.2.1, fun i hi0 hi1 => ?_⟩
      rw [m _ _ (by omega)] at hi1
      rw [n _ _ (by omega) (by omega) (by omega), ne_n (by omega) (by omega) (by omega)]
      exact hE.2.2.2 i hi0 hi1
end CLG
