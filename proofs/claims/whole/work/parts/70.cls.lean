/-! the class's memory of the document's state -/
def GrV (V : AMem) (t : Int) (g : AMem) : Prop := (g t 2 = V 0 0 ∧ g t 3 = V 0 1) ∧
  (∀ b, 0 ≤ b → b < V 0 0 → g (t + 2 + 2 * b) 1 = V 1 b ∧ ∀ i, 0 ≤ i → i < V 1 b → g (t + 2 + 2 * b + 1) i = V (10 + b) i) ∧
  ∀ e, 0 ≤ e → e < V 0 1 → g (t + 23 + 2 * e) 1 = V 2 e ∧ g (t + 23 + 2 * e) 2 = V 3 e ∧ g (t + 23 + 2 * e) 3 = V 4 e ∧ ∀ i, 0 ≤ i → i < V 1 (V 3 e) → g (t + 23 + 2 * e + 1) i = V (20 + e) i
def ClV (V : AMem) (t : Int) (g : AMem) : Prop := (t = 3 ∨ t = 58) ∧ (g 2 0 = t ∧ g 2 1 = 61 - t) ∧ GrV V t g ∧
  (g 2 10 = V 0 2 ∧ g 2 11 = V 0 3 ∧ g 2 12 = V 0 4 ∧ g 2 13 = V 0 5 ∧ g 113 1 = V 0 6) ∧ ∀ i, 0 ≤ i → i < V 0 6 → g 114 i = V 5 i
def Hi (g g' : AMem) : Prop := ∀ a k, (a < 2 ∨ 137 ≤ a ∨ a = 133) → g' a k = g a k
def Cs (g g' : AMem) : Prop := ∀ a k, (a < 115 ∨ 137 ≤ a ∨ a = 133) → g' a k = g a k
def CO (o : Int × AMem) (q : Option (Int × AMem)) (g : AMem) : Prop := ∃ g' t', q = some (o.1, g') ∧ ClV o.2 t' g' ∧ Hi g g'
section CLS
variable {L : Nat} {V g h : AMem} {a b c e f i j k p r t w x : Int}
theorem Hi_r : Hi g g := fun _ _ _ => rfl
theorem Hi_t {j : AMem} (h1 : Hi g h) (h2 : Hi h j) : Hi g j := fun a k q => by rw [h2 a k q, h1 a k q]
theorem Hi_u (h1 : Hi g h) (h2 : 2 ≤ a ∧ a < 137 ∧ a ≠ 133) : Hi g (up h a k x) := fun a' k' q => by rw [up_n (by omega), h1 a' k' q]
theorem Cs_r : Cs g g := fun _ _ _ => rfl
theorem Cs_t {j : AMem} (h1 : Cs g h) (h2 : Cs h j) : Cs g j := fun a k q => by rw [h2 a k q, h1 a k q]
theorem Cs_u (h1 : Cs g h) (h2 : 115 ≤ a ∧ a < 137 ∧ a ≠ 133) : Cs g (up h a k x) := fun a' k' q => by rw [up_n (by omega), h1 a' k' q]
theorem Cs_hi (h1 : Cs g h) : Hi g h := fun a k q => h1 a k (by omega)
theorem GrV_k (hV : VaV V) (hG : GrV V t g) (hk : ∀ a k, t ≤ a → a ≤ t + 54 → h a k = g a k) : GrV V t h := by
  have h0 := hV.1
  have h1 := hV.2.1
  obtain ⟨g0, g1, g2⟩ := hG
  refine ⟨by rw [hk _ _ (by omega) (by omega), hk _ _ (by omega) (by omega)]; exact g0, fun b b0 b1 => ?_, fun e e0 e1 => ?_⟩
  · have hB := g1 b b0 b1
    rw [hk _ _ (by omega) (by omega)]
    refine ⟨hB.1, fun i i0 i1 => ?_⟩
    rw [hk _ _ (by omega) (by omega)]
    exact hB.2 i i0 i1
  · have hE := g2 e e0 e1
    rw [hk _ _ (by omega) (by omega), hk _ _ (by omega) (by omega), hk _ _ (by omega) (by omega)]
    refine ⟨hE.1, hE.2.1, hE.2.2.1, fun i i0 i1 => ?_⟩
    rw [hk _ _ (by omega) (by omega)]
    exact hE.2.2.2 i i0 i1
theorem ClV_k (hV : VaV V) (hC : ClV V t g) (hk : ∀ a k, 2 ≤ a → a < 115 → h a k = g a k) : ClV V t h := by
  obtain ⟨c0, c1, c2, c3, c4⟩ := hC
  refine ⟨c0, by rw [hk _ _ (by omega) (by omega), hk _ _ (by omega) (by omega)]; exact c1, GrV_k hV c2 (fun a k q1 q2 => hk a k (by omega) (by omega)), ?_, fun i i0 i1 => ?_⟩
  · rw [hk _ _ (by omega) (by omega), hk _ _ (by omega) (by omega), hk _ _ (by omega) (by omega), hk _ _ (by omega) (by omega), hk _ _ (by omega) (by omega)]
    exact c3
  · rw [hk _ _ (by omega) (by omega)]
    exact c4 i i0 i1
theorem ClV_cs (hV : VaV V) (hC : ClV V t g) (hS : Cs g h) : ClV V t h := ClV_k hV hC (fun a k _ q => hS a k (by omega))
theorem cX_isBelow : jX_isBelow L a b g = some (if 0 ≤ a ∧ a < b then 1 else 0, g) := by
  rw [jX_isBelow_eq]
  repeat' split
  all_goals first
    | rfl
    | omega
theorem cG_hasBlock (ht : t = 3 ∨ t = 58) (hG : GrV V t g) : jGr_hasBlock L t b g = some (if 0 ≤ b ∧ b < V 0 0 then 1 else 0, g) := by
  rw [jGr_hasBlock_eq L t b g (kG' ht), hG.1.1, cX_isBelow, bnd]
  simp only [b2b, if_true]
theorem cG_hasEdge (ht : t = 3 ∨ t = 58) (hG : GrV V t g) : jGr_hasEdge L t e g = some (if 0 ≤ e ∧ e < V 0 1 then 1 else 0, g) := by
  rw [jGr_hasEdge_eq L t e g (kG' ht), hG.1.2, cX_isBelow, bnd]
  simp only [b2b, if_true]
theorem cG_countFrom (hV : VaV V) (ht : t = 3 ∨ t = 58) (hG : GrV V t g) : jGr_countFrom L t b g = some (frC V b, g) := by
  have hn := hV.2.1
  rw [jGr_countFrom_eq L t b g (kG' ht)]
  refine lp (F := fun e => jGr_countFrom_4 L t b (cnB (fun e => decide (V 2 e = b)) e.toNat) e g) (n := V 0 1) ?_ ?_ 0 (Int.le_refl _) hn.1
  · intro e h0 h1 ih
    have hc := cnB_b (f := fun e => decide (V 2 e = b)) (k := e.toNat)
    rw [cnB_s h0] at ih
    rw [jGr_countFrom_4_eq L t _ _ _ g (kG' ht), hG.1.2, if_neg (by omega), if_pos (by omega), (hG.2.2 e h0 h1).1, iw_n (show 0 ≤ e + 1 by omega) (by omega), iw_n (show 0 ≤ cnB (fun e => decide (V 2 e = b)) e.toNat + 0 by omega) (by omega), iw_n (show 0 ≤ cnB (fun e => decide (V 2 e = b)) e.toNat + 1 by omega) (by omega)]
    by_cases q : V 2 e = b
    · rw [if_neg (by simp [q])]
      rw [if_pos (by simp [q])] at ih
      exact ih
    · rw [if_pos q]
      rw [if_neg (by simp [q])] at ih
      exact ih
  · rw [jGr_countFrom_4_eq L t _ _ _ g (kG' ht), hG.1.2, if_pos (Int.le_refl _)]
    rfl
theorem cG_countTo (hV : VaV V) (ht : t = 3 ∨ t = 58) (hG : GrV V t g) : jGr_countTo L t b g = some (toC V b, g) := by
  have hn := hV.2.1
  rw [jGr_countTo_eq L t b g (kG' ht)]
  refine lp (F := fun e => jGr_countTo_4 L t b (cnB (fun e => decide (V 3 e = b)) e.toNat) e g) (n := V 0 1) ?_ ?_ 0 (Int.le_refl _) hn.1
  · intro e h0 h1 ih
    have hc := cnB_b (f := fun e => decide (V 3 e = b)) (k := e.toNat)
    rw [cnB_s h0] at ih
    rw [jGr_countTo_4_eq L t _ _ _ g (kG' ht), hG.1.2, if_neg (by omega), if_pos (by omega), (hG.2.2 e h0 h1).2.1, iw_n (show 0 ≤ e + 1 by omega) (by omega), iw_n (show 0 ≤ cnB (fun e => decide (V 3 e = b)) e.toNat + 0 by omega) (by omega), iw_n (show 0 ≤ cnB (fun e => decide (V 3 e = b)) e.toNat + 1 by omega) (by omega)]
    by_cases q : V 3 e = b
    · rw [if_neg (by simp [q])]
      rw [if_pos (by simp [q])] at ih
      exact ih
    · rw [if_pos q]
      rw [if_neg (by simp [q])] at ih
      exact ih
  · rw [jGr_countTo_4_eq L t _ _ _ g (kG' ht), hG.1.2, if_pos (Int.le_refl _)]
    rfl
theorem cG_whereStepsGo (hV : VaV V) (ht : t = 3 ∨ t = 58) (hG : GrV V t g) (h0 : 0 ≤ e) (h1 : e < V 0 1) : jGr_whereStepsGo L t e g = some (whV V e, g) := by
  have hn := hV.2.1
  have hg := hG.2.2 e h0 h1
  have c16 : 0 ≤ e ∧ e < 16 := by omega
  rw [jGr_whereStepsGo_eq L t e g (kG' ht), if_pos c16, hg.1, cG_countFrom hV ht hG, bnd]
  dsimp only
  rw [if_pos c16, hg.2.1, cG_countTo hV ht hG, bnd]
  unfold whV
  dsimp only
  by_cases q : frC V (V 2 e) = 1
  · rw [if_neg (show ¬ frC V (V 2 e) ≠ 1 by omega), if_pos q]
  · rw [if_pos q, if_neg q]
    by_cases q2 : toC V (V 3 e) = 1
    · rw [if_neg (show ¬ toC V (V 3 e) ≠ 1 by omega), if_pos q2]
    · rw [if_pos q2, if_neg q2]
theorem cX_bad : jX_refuse L (-202) g = some (-202, up g 2 11 (iw (g 2 11 + 1))) := by
  rw [jX_refuse_eq, if_neg (by omega)]
theorem cX_no : jX_refuse L (-203) g = some (-203, up g 2 12 (iw (g 2 12 + 1))) := by
  rw [jX_refuse_eq, if_pos (by omega), if_neg (by omega)]
theorem cX_full : jX_refuse L (-204) g = some (-204, up g 2 13 (iw (g 2 13 + 1))) := by
  rw [jX_refuse_eq, if_pos (by omega), if_pos (by omega)]
theorem ClV_0 (hV : VaV V) (hC : ClV V t g) (hk : k = 0 ∨ k = 1 ∨ k = 2) : ClV (up V 0 (3 + k) w) t (up g 2 (11 + k) w) := by
  have hV0 := hV.1
  have hV1 := hV.2.1
  obtain ⟨c0, c1, c2, c3, c4⟩ := hC
  have n : ∀ a j, a ≠ 2 ∨ j < 11 → up g 2 (11 + k) w a j = g a j := fun a j h => up_n (by omega)
  have m : ∀ a j, a ≠ 0 ∨ j < 3 ∨ 5 < j → up V 0 (3 + k) w a j = V a j := fun a j h => up_n (by omega)
  refine ⟨c0, by rw [n _ _ (by omega), n _ _ (by omega)]; exact c1, ⟨?_, fun b b0 b1 => ?_, fun e e0 e1 => ?_⟩, ⟨?_, ?_, ?_, ?_, ?_⟩, fun i i0 i1 => ?_⟩
  · rw [n _ _ (by omega), n _ _ (by omega), m _ _ (by omega), m _ _ (by omega)]
    exact c2.1
  · rw [m _ _ (by omega)] at b1
    have hB := c2.2.1 b b0 b1
    rw [n _ _ (by omega), m _ _ (by omega)]
    refine ⟨hB.1, fun i i0 i1 => ?_⟩
    rw [n _ _ (by omega), m _ _ (by omega)]
    exact hB.2 i i0 i1
  · rw [m _ _ (by omega)] at e1
    have hE := c2.2.2 e e0 e1
    rw [n _ _ (by omega), n _ _ (by omega), n _ _ (by omega), m 2 _ (by omega), m 3 _ (by omega), m 4 _ (by omega), m 1 _ (by omega)]
    refine ⟨hE.1, hE.2.1, hE.2.2.1, fun i i0 i1 => ?_⟩
    rw [n _ _ (by omega), m _ _ (by omega)]
    exact hE.2.2.2 i i0 i1
  · rw [n _ _ (by omega), m _ _ (by omega)]; exact c3.1
  · by_cases q : k = 0
    · subst q; exact (up_s (g := g) (a := 2) (k := 11) (x := w)).trans (up_s (g := V) (a := 0) (k := 3) (x := w)).symm
    · rw [up_n (by omega), up_n (by omega)]; exact c3.2.1
  · by_cases q : k = 1
    · subst q; exact (up_s (g := g) (a := 2) (k := 12) (x := w)).trans (up_s (g := V) (a := 0) (k := 4) (x := w)).symm
    · rw [up_n (by omega), up_n (by omega)]; exact c3.2.2.1
  · by_cases q : k = 2
    · subst q; exact (up_s (g := g) (a := 2) (k := 13) (x := w)).trans (up_s (g := V) (a := 0) (k := 5) (x := w)).symm
    · rw [up_n (by omega), up_n (by omega)]; exact c3.2.2.2.1
  · rw [n _ _ (by omega), m _ _ (by omega)]; exact c3.2.2.2.2
  · rw [m _ _ (by omega)] at i1
    rw [n _ _ (by omega), m _ _ (by omega)]
    exact c4 i i0 i1
theorem CO_B (hV : VaV V) (hC : ClV V t g) : CO (rB V) (jX_refuse L (-202) g) g := by
  refine ⟨_, t, cX_bad, ?_, Hi_u Hi_r (by omega)⟩
  rw [hC.2.2.2.1.2.1]
  exact ClV_0 hV hC (Or.inl rfl)
theorem CO_N (hV : VaV V) (hC : ClV V t g) : CO (rN V) (jX_refuse L (-203) g) g := by
  refine ⟨_, t, cX_no, ?_, Hi_u Hi_r (by omega)⟩
  rw [hC.2.2.2.1.2.2.1]
  exact ClV_0 hV hC (Or.inr (Or.inl rfl))
theorem CO_F (hV : VaV V) (hC : ClV V t g) : CO (rF V) (jX_refuse L (-204) g) g := by
  refine ⟨_, t, cX_full, ?_, Hi_u Hi_r (by omega)⟩
  rw [hC.2.2.2.1.2.2.2.1]
  exact ClV_0 hV hC (Or.inr (Or.inr rfl))
theorem CO_s (hC : ClV V t g) : CO (w, V) (some (w, g)) g := ⟨g, t, rfl, hC, Hi_r⟩
theorem CO_c (hV : VaV V) (hC : ClV V t g) (hS : Cs g h) : CO (w, V) (some (w, h)) g := ⟨h, t, rfl, ClV_cs hV hC hS, Cs_hi hS⟩
theorem CO_t {o : Int × AMem} {q : Option (Int × AMem)} (hS : Hi g h) (hO : CO o q h) : CO o q g := by
  obtain ⟨g', t', a1, a2, a3⟩ := hO
  exact ⟨g', t', a1, a2, Hi_t hS a3⟩
end CLS
