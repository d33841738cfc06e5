/-! the class: whole, dearest, tail -/
section OPD
variable {L : Nat} {V W X g h : AMem} {a b c d e f i j k kd l m n p q r s t w x : Int}
theorem cX_share (hV : VaV V) (hC : ClV V t g) (he0 : 0 ≤ e) (he1 : e < V 0 1) (hw0 : 0 ≤ w) (hw1 : w ≤ 3) : ∃ h, jX_shareOfWhole L e w g = some (whA V w e, h) ∧ Cs g h := by
  have h1 := hV.2.1
  have ht := hC.1
  have c16 : 0 ≤ e ∧ e < 16 := by omega
  obtain ⟨g1, a1, a2, a3⟩ := cX_isClear (L := L) hV hC he0 he1
  have hS1 := H6_c a2
  have hC1 := ClV_cs hV hC hS1
  rw [jX_shareOfWhole_eq, a1, bnd]
  dsimp only
  rw [ifn]
  unfold whA
  by_cases hc : clB V e = true
  · rw [if_pos hc, if_pos hc]
    obtain ⟨g2, b1, b2, b3⟩ := cX_makePlan (L := L) (q := 118) hV hC1 (Or.inl rfl) he0 he1
    have h9 := plV_9 (kd := V 0 2) hV he0 he1
    have hS2 : Cs g1 g2 := fun a k c => b3 a k (by omega) (by omega)
    have hC2 := ClV_cs hV hC1 hS2
    have hS := Cs_t hS1 hS2
    have e20 := hC2.2.1.1
    have hk3 : kin (SH L) (g2 2 0) = 3 := by rw [e20]; exact kG' ht
    have e3 : g2 118 3 = plV V e (V 0 2) 0 0 := b2.1.1
    have hE := hC2.2.2.1.2.2 e he0 he1
    have hlb := coL_b (kd := V 0 2) hV he0 he1
    rw [b1, bnd, if_pos hk3, if_pos hk3, if_pos c16, cP_price (Or.inl rfl) b2 h9.1 h9.2, bnd, e20, hE.2.2.1, cG_whereStepsGo hV ht hC2.2.2.1 he0 he1, bnd, e3]
    dsimp only
    by_cases w0 : w = 0
    · rw [if_pos w0, if_pos w0]
      have : V 4 e * csV (V 0 2) (plV V e (V 0 2)) = coV V e (V 0 2) * V 4 e := Int.mul_comm _ _
      rw [this, iw_n hlb.1 (by omega)]
      exact ⟨g2, rfl, hS⟩
    · rw [if_neg w0, if_neg w0]
      by_cases w1 : w = 1
      · rw [if_pos w1, if_pos w1]
        by_cases c1 : whV V e = 2
        · rw [if_neg (show ¬ whV V e ≠ 2 by omega)]
          by_cases c2 : plV V e (V 0 2) 0 0 ≤ 0
          · rw [if_pos (show g2 118 3 ≤ 0 by omega), if_neg (fun h => by omega)]
            exact ⟨g2, rfl, hS⟩
          · rw [if_neg (show ¬ g2 118 3 ≤ 0 by omega), if_pos ⟨by omega, c1⟩]
            exact ⟨g2, rfl, hS⟩
        · rw [if_pos c1, if_neg (fun h => c1 h.2)]
          exact ⟨g2, rfl, hS⟩
      · rw [if_neg w1, if_neg w1]
        by_cases w2 : w = 2
        · rw [if_pos w2, if_pos w2]
          exact ⟨g2, rfl, hS⟩
        · rw [if_neg w2, if_neg w2]
          exact ⟨g2, rfl, hS⟩
  · rw [if_neg hc, if_neg hc]
    by_cases w2 : w = 2
    · rw [if_neg (show ¬ w ≠ 2 by omega), if_pos w2]
      exact ⟨g1, rfl, hS1⟩
    · rw [if_pos w2, if_neg w2]
      exact ⟨g1, rfl, hS1⟩
theorem cX_whole (hV : VaV V) (hC : ClV V t g) : CO (oWhole V w) (jX_whole L w g) g := by
  have hn := hV.2.1
  rw [jX_whole_eq, cX_isBelow, bnd]
  simp only [bns]
  rw [ifn]
  unfold oWhole
  by_cases hw : 0 ≤ w ∧ w ≤ 3
  · rw [if_pos hw, if_pos (show 0 ≤ w ∧ w < 4 by omega)]
    refine lpx (F := fun i s => jX_whole_20 L w (smI (whA V w) i.toNat) i s) (I := fun i s => Cs g s ∧ 0 ≤ smI (whA V w) i.toNat ∧ smI (whA V w) i.toNat ≤ 8019 * i) (P := fun o => CO (smI (whA V w) (V 0 1).toNat, V) o g) (n := V 0 1) ?_ ?_ 0 g (Int.le_refl _) hn.1 ⟨Cs_r, by simp [smI], by simp [smI]⟩
    · intro i h h2 h3 hI ih
      have hb := whA_b (w := w) hV h2 h3
      have hCh := ClV_cs hV hC hI.1
      have hk3 : kin (SH L) (h 2 0) = 3 := by rw [hCh.2.1.1]; exact kG' hCh.1
      obtain ⟨g1, a1, a2⟩ := cX_share (L := L) hV hCh h2 h3 hw.1 hw.2
      rw [smI_s h2] at ih
      rw [jX_whole_20_eq, if_pos hk3, if_neg (show ¬ h (h 2 0) 3 ≤ i by rw [hCh.2.1.1, hCh.2.2.1.1.2]; omega), a1, bnd, iw_n (show 0 ≤ i + 1 by omega) (by omega)]
      dsimp only
      rw [iw_n (by omega) (by omega)]
      exact ih g1 ⟨Cs_t hI.1 a2, by omega, by omega⟩
    · intro h hI
      have hCh := ClV_cs hV hC hI.1
      have hk3 : kin (SH L) (h 2 0) = 3 := by rw [hCh.2.1.1]; exact kG' hCh.1
      rw [jX_whole_20_eq, if_pos hk3, if_pos (show h (h 2 0) 3 ≤ V 0 1 by rw [hCh.2.1.1, hCh.2.2.1.1.2]; omega)]
      exact CO_c hV hC hI.1
  · rw [if_neg hw, if_neg (show ¬ (0 ≤ w ∧ w < 4) by omega)]
    exact CO_B hV hC
theorem cX_weighed (hV : VaV V) (hC : ClV V t g) (he0 : 0 ≤ e) (he1 : e < V 0 1) : ∃ h, jX_weighedPrice L e g = some (coV V e (V 0 2) * V 4 e, h) ∧ Cs g h := by
  have h1 := hV.2.1
  have hk3 : kin (SH L) (g 2 0) = 3 := by rw [hC.2.1.1]; exact kG' hC.1
  have hE := hC.2.2.1.2.2 e he0 he1
  have hlb := coL_b (kd := V 0 2) hV he0 he1
  obtain ⟨g1, a1, a2⟩ := cX_priceBy (L := L) (kd := g 2 10) hV hC he0 he1
  rw [hC.2.2.2.1.1] at a1
  refine ⟨g1, ?_, a2⟩
  rw [jX_weighedPrice_eq, if_pos hk3, if_pos (by omega), hC.2.2.2.1.1, a1, bnd, hC.2.1.1, hE.2.2.1]
  dsimp only
  rw [Int.mul_comm, iw_n hlb.1 (by omega)]
theorem cX_dearest (hV : VaV V) (hC : ClV V t g) : CO (oDearest V) (jX_dearest L g) g := by
  have hn := hV.2.1
  rw [jX_dearest_eq]
  unfold oDearest
  refine lpx (F := fun i s => jX_dearest_8 L (dea V i.toNat).1 (dea V i.toNat).2 i s) (I := fun _ s => Cs g s) (P := fun o => CO ((dea V (V 0 1).toNat).1, V) o g) (n := V 0 1) ?_ ?_ 0 g (Int.le_refl _) hn.1 Cs_r
  · intro i h h2 h3 hI ih
    rw [dea_s h2] at ih
    have hCh := ClV_cs hV hC hI
    have hk3 : kin (SH L) (h 2 0) = 3 := by rw [hCh.2.1.1]; exact kG' hCh.1
    obtain ⟨g1, a1, a2, -⟩ := cX_isClear (L := L) hV hCh h2 h3
    have hS1 := H6_c a2
    have hC1 := ClV_cs hV hCh hS1
    rw [jX_dearest_8_eq, if_pos hk3, if_neg (show ¬ h (h 2 0) 3 ≤ i by rw [hCh.2.1.1, hCh.2.2.1.1.2]; omega), a1, bnd, iw_n (show 0 ≤ i + 1 by omega) (by omega)]
    dsimp only
    rw [ifz]
    by_cases c : clB V i = true
    · obtain ⟨g2, b1, b2⟩ := cX_weighed (L := L) hV hC1 h2 h3
      have hC2 := ClV_cs hV hC1 b2
      obtain ⟨g3, d1, d2⟩ := cX_weighed (L := L) hV hC2 h2 h3
      rw [if_pos c, b1, bnd, d1, bnd]
      dsimp only
      by_cases c2 : coV V i (V 0 2) * V 4 i ≤ (dea V i.toNat).2
      · rw [if_pos c2]
        rw [if_neg (by omega)] at ih
        exact ih g2 (Cs_t hI (Cs_t hS1 b2))
      · rw [if_neg c2]
        rw [if_pos ⟨c, by omega⟩] at ih
        exact ih g3 (Cs_t hI (Cs_t hS1 (Cs_t b2 d2)))
    · rw [if_neg c]
      rw [if_neg (fun h => c h.1)] at ih
      exact ih g1 (Cs_t hI hS1)
  · intro h hI
    have hCh := ClV_cs hV hC hI
    have hk3 : kin (SH L) (h 2 0) = 3 := by rw [hCh.2.1.1]; exact kG' hCh.1
    rw [jX_dearest_8_eq, if_pos hk3, if_pos (show h (h 2 0) 3 ≤ V 0 1 by rw [hCh.2.1.1, hCh.2.2.1.1.2]; omega)]
    exact CO_c hV hC hI
theorem sbK_c : ∀ (k : Nat) (n : Int), sbK W X k n = sbK X W k n
  | 0, n => rfl
  | k + 1, n => by
    rw [sbK, sbK, sbK_c k (n + 1)]
    by_cases c1 : W 0 0 ≤ n <;> by_cases c2 : X 0 0 ≤ n
    · rw [if_pos c1, if_pos c2]
    · rw [if_pos c1, if_neg c2, if_pos c1]
    · rw [if_neg c1, if_pos c2, if_pos c2]
    · rw [if_neg c1, if_neg c2, if_neg c2, if_neg c1]
      by_cases c3 : W 1 (W 0 0 - 1 - n) = X 1 (X 0 0 - 1 - n) ∧ W 2 (W 0 0 - 1 - n) = X 2 (X 0 0 - 1 - n) ∧ W 3 (W 0 0 - 1 - n) = X 3 (X 0 0 - 1 - n)
      · rw [if_pos c3, if_pos ⟨c3.1.symm, c3.2.1.symm, c3.2.2.symm⟩]
      · rw [if_neg c3, if_neg (fun h => c3 ⟨h.1.symm, h.2.1.symm, h.2.2.symm⟩)]
theorem cP_same (hP : PlW L V e kd W 118 g) (hX : PlW L V f p X 125 g) (h0 : 0 ≤ W 0 0) (h9 : W 0 0 ≤ 9) (x0 : 0 ≤ X 0 0) (x9 : X 0 0 ≤ 9) : ∀ (k : Nat) (n : Int), 0 ≤ n → n ≤ 9 → 9 < n + k → jPl_countSameAtEnd_2 L 118 125 n g = some (sbK W X k n, g)
  | 0, n, q0, q9, q1 => by omega
  | k + 1, n, q0, q9, q1 => by
    have e10 : g 118 3 = W 0 0 := hP.1.1
    have e16 : g 125 3 = X 0 0 := hX.1.1
    rw [jPl_countSameAtEnd_2_eq L 118 125 n g (kP' (Or.inl rfl)) (kP' (Or.inr rfl)), e10, e16, sbK]
    by_cases c1 : W 0 0 ≤ n
    · rw [if_pos c1, if_pos c1]
    rw [if_neg c1, if_neg c1]
    by_cases c2 : X 0 0 ≤ n
    · rw [if_pos c2, if_pos c2]
    rw [if_neg c2, if_neg c2]
    have i1 : iw (iw (W 0 0 - 1) - n) = W 0 0 - 1 - n := by rw [iw_s (show -2147483648 ≤ W 0 0 - 1 ∧ W 0 0 - 1 < 2147483648 by omega), iw_n (by omega) (by omega)]
    have i2 : iw (iw (X 0 0 - 1) - n) = X 0 0 - 1 - n := by rw [iw_s (show -2147483648 ≤ X 0 0 - 1 ∧ X 0 0 - 1 < 2147483648 by omega), iw_n (by omega) (by omega)]
    have hk := hP.2.2.1 (W 0 0 - 1 - n) (by omega) (by omega)
    have hx := hX.2.2.1 (X 0 0 - 1 - n) (by omega) (by omega)
    have b1 : 0 ≤ W 0 0 - 1 - n ∧ W 0 0 - 1 - n < 9 := by omega
    have b2 : 0 ≤ X 0 0 - 1 - n ∧ X 0 0 - 1 - n < 9 := by omega
    have hsm : jPl_isSame L 118 (W 0 0 - 1 - n) 125 (X 0 0 - 1 - n) g = some (if W 1 (W 0 0 - 1 - n) = X 1 (X 0 0 - 1 - n) ∧ W 2 (W 0 0 - 1 - n) = X 2 (X 0 0 - 1 - n) ∧ W 3 (W 0 0 - 1 - n) = X 3 (X 0 0 - 1 - n) then 1 else 0, g) := by
      rw [jPl_isSame_eq L 118 _ 125 _ g (kP' (Or.inl rfl)) (kP' (Or.inr rfl)), if_pos b1, if_pos b2, if_pos b1, if_pos b2, if_pos b1, if_pos b2]
      simp only [hk.1, hk.2.1, hk.2.2, hx.1, hx.2.1, hx.2.2]
      by_cases c3 : W 1 (W 0 0 - 1 - n) = X 1 (X 0 0 - 1 - n)
      · rw [if_neg (by simp [c3])]
        by_cases c4 : W 2 (W 0 0 - 1 - n) = X 2 (X 0 0 - 1 - n)
        · rw [if_neg (by simp [c4])]
          by_cases c5 : W 3 (W 0 0 - 1 - n) = X 3 (X 0 0 - 1 - n)
          · rw [if_neg (by simp [c5]), if_pos ⟨c3, c4, c5⟩]
          · rw [if_pos c5, if_neg (fun h => c5 h.2.2)]
        · rw [if_pos c4, if_neg (fun h => c4 h.2.1)]
      · rw [if_pos c3, if_neg (fun h => c3 h.1)]
    rw [i1, i2, hsm, bnd, iw_n (show 0 ≤ n + 1 by omega) (by omega)]
    dsimp only
    rw [ifz]
    by_cases c : W 1 (W 0 0 - 1 - n) = X 1 (X 0 0 - 1 - n) ∧ W 2 (W 0 0 - 1 - n) = X 2 (X 0 0 - 1 - n) ∧ W 3 (W 0 0 - 1 - n) = X 3 (X 0 0 - 1 - n)
    · rw [if_pos c, if_pos c]
      exact cP_same hP hX h0 h9 x0 x9 k (n + 1) (by omega) (by omega) (by omega)
    · rw [if_neg c, if_neg c]
theorem cX_allClear (hV : VaV V) (hC : ClV V t g) : ∃ h, jX_allClearTo L b g = some (if ncB V b = true then 0 else 1, h) ∧ Cs g h := by
  have hn := hV.2.1
  rw [jX_allClearTo_eq]
  have hmain : ∀ (m : Nat) (i : Int) (h : AMem), 0 ≤ i → i + m = V 0 1 → anB (fun e => decide (V 3 e = b) && !(clB V e)) i.toNat = false → Cs g h → ∃ h', jX_allClearTo_2 L b i h = some (if ncB V b = true then 0 else 1, h') ∧ Cs g h' := by
    intro m
    induction m with
    | zero =>
      intro i h i0 i1 hf hS
      have hCh := ClV_cs hV hC hS
      have hk3 : kin (SH L) (h 2 0) = 3 := by rw [hCh.2.1.1]; exact kG' hCh.1
      refine ⟨h, ?_, hS⟩
      rw [jX_allClearTo_2_eq, if_pos hk3, if_pos (show h (h 2 0) 3 ≤ i by rw [hCh.2.1.1, hCh.2.2.1.1.2]; omega), if_neg]
      unfold ncB
      rw [show (V 0 1).toNat = i.toNat by omega, hf]
      simp
    | succ m ih =>
      intro i h i0 i1 hf hS
      have hCh := ClV_cs hV hC hS
      have hk3 : kin (SH L) (h 2 0) = 3 := by rw [hCh.2.1.1]; exact kG' hCh.1
      have hE := (hCh.2.2.1.2.2 i i0 (by omega)).2.1
      rw [← hCh.2.1.1] at hE
      rw [jX_allClearTo_2_eq, if_pos hk3, if_neg (show ¬ h (h 2 0) 3 ≤ i by rw [hCh.2.1.1, hCh.2.2.1.1.2]; omega), if_pos hk3, if_pos (by omega), iw_n (show 0 ≤ i + 1 by omega) (by omega)]
      by_cases c : V 3 i = b
      · obtain ⟨g1, a1, a2, -⟩ := cX_isClear (L := L) hV hCh i0 (show i < V 0 1 by omega)
        have hS1 := Cs_t hS (H6_c a2)
        rw [if_neg (show ¬ h (h 2 0 + 23 + 2 * i) 2 ≠ b by rw [hE]; simp [c]), a1, bnd]
        dsimp only
        rw [ifn]
        by_cases c2 : clB V i = true
        · rw [if_pos c2]
          exact ih (i + 1) g1 (by omega) (by omega) (by rw [anB_s i0, hf]; simp [c2]) hS1
        · rw [if_neg c2]
          refine ⟨g1, ?_, hS1⟩
          rw [if_pos]
          unfold ncB
          exact anB_t.mpr ⟨i, i0, by omega, by simp [c, c2]⟩
      · rw [if_pos (show h (h 2 0 + 23 + 2 * i) 2 ≠ b by rw [hE]; exact c)]
        exact ih (i + 1) h (by omega) (by omega) (by rw [anB_s i0, hf]; simp [c]) hS
  exact hmain (V 0 1).toNat 0 g (by omega) (by omega) rfl Cs_r
theorem cX_tail42 (hV : VaV V) (hC : ClV V t g) : CO ((taS V b (V 0 1).toNat).2, V) (jX_tail_42 L b 0 1 0 g) g := by
  have hn := hV.2.1
  refine lpx (F := fun i s => jX_tail_42 L b (taS V b i.toNat).2 (if (taS V b i.toNat).1 < 0 then 1 else 0) i s) (I := fun i s => Cs g s ∧ (0 ≤ (taS V b i.toNat).1 → PlW L V (taS V b i.toNat).1 (V 0 2) (plV V (taS V b i.toNat).1 (V 0 2)) 118 s)) (P := fun o => CO ((taS V b (V 0 1).toNat).2, V) o g) (n := V 0 1) ?_ ?_ 0 g (Int.le_refl _) hn.1 ⟨Cs_r, fun q => by simp [taS] at q⟩
  · intro i h h2 h3 hI ih
    rw [taS_s h2] at ih
    have hCh := ClV_cs hV hC hI.1
    have hb := taS_b (V := V) (b := b) (k := i.toNat)
    have hk3 : kin (SH L) (h 2 0) = 3 := by rw [hCh.2.1.1]; exact kG' hCh.1
    have hE := (hCh.2.2.1.2.2 i h2 h3).2.1
    rw [← hCh.2.1.1] at hE
    have c16 : 0 ≤ i ∧ i < 16 := by omega
    rw [jX_tail_42_eq, if_pos hk3, if_neg (show ¬ h (h 2 0) 3 ≤ i by rw [hCh.2.1.1, hCh.2.2.1.1.2]; omega), if_pos hk3, if_pos c16, if_pos hk3, if_pos c16, iw_n (show 0 ≤ i + 1 by omega) (by omega)]
    by_cases q : V 3 i = b
    · have q' : ¬ h (h 2 0 + 23 + 2 * i) 2 ≠ b := by rw [hE]; simp [q]
      rw [if_neg q', if_neg q']
      rw [if_pos q] at ih
      have h9 := plV_9 (kd := V 0 2) hV h2 h3
      by_cases q2 : (taS V b i.toNat).1 < 0
      · rw [if_pos q2] at ih
        rw [if_pos q2, if_neg (show ¬ (1 : Int) = 0 by omega)]
        obtain ⟨g2, b1, b2, b3⟩ := cX_makePlan (L := L) (q := 118) hV hCh (Or.inl rfl) h2 h3
        have e3 : g2 118 3 = plV V i (V 0 2) 0 0 := b2.1.1
        rw [b1, bnd, e3]
        have := ih g2 ⟨Cs_t hI.1 (fun a k c => b3 a k (by omega) (by omega)), fun _ => b2⟩
        dsimp only at this
        rw [if_neg (show ¬ i < 0 by omega)] at this
        exact this
      · rw [if_neg q2] at ih
        rw [if_neg q2, if_pos rfl]
        obtain ⟨g2, b1, b2, b3⟩ := cX_makePlan (L := L) (q := 125) hV hCh (Or.inr rfl) h2 h3
        have hP1 := PlW_k (hI.2 (by omega)) (h := g2) (fun a k c => b3 a k (by omega) (by omega))
        have h9' := plV_9 (kd := V 0 2) hV (e := (taS V b i.toNat).1) (by omega) (by omega)
        have hsm := cP_same hP1 b2 h9'.1.1 h9'.2 h9.1.1 h9.2 10 0 (by omega) (by omega) (by omega)
        rw [b1, bnd, jPl_countSameAtEnd_eq L 118 125 g2 (kP' (Or.inl rfl)) (kP' (Or.inr rfl)), hsm, bnd, sbK_c]
        dsimp only
        have hmn : (if sbK (plV V i (V 0 2)) (plV V (taS V b i.toNat).1 (V 0 2)) 10 0 < (taS V b i.toNat).2 then sbK (plV V i (V 0 2)) (plV V (taS V b i.toNat).1 (V 0 2)) 10 0 else (taS V b i.toNat).2) = (if (taS V b i.toNat).2 ≤ sbK (plV V i (V 0 2)) (plV V (taS V b i.toNat).1 (V 0 2)) 10 0 then (taS V b i.toNat).2 else sbK (plV V i (V 0 2)) (plV V (taS V b i.toNat).1 (V 0 2)) 10 0) := by
          split <;> split <;> omega
        rw [hmn]
        have := ih g2 ⟨Cs_t hI.1 (fun a k c => b3 a k (by omega) (by omega)), fun _ => hP1⟩
        dsimp only at this
        rw [if_neg q2] at this
        exact this
    · have q' : h (h 2 0 + 23 + 2 * i) 2 ≠ b := by rw [hE]; exact q
      rw [if_pos q', if_pos q']
      rw [if_neg q] at ih
      exact ih h hI
  · intro h hI
    have hCh := ClV_cs hV hC hI.1
    have hk3 : kin (SH L) (h 2 0) = 3 := by rw [hCh.2.1.1]; exact kG' hCh.1
    rw [jX_tail_42_eq, if_pos hk3, if_pos (show h (h 2 0) 3 ≤ V 0 1 by rw [hCh.2.1.1, hCh.2.2.1.1.2]; omega)]
    exact CO_c hV hC hI.1
theorem cX_tail (hV : VaV V) (hC : ClV V t g) : CO (oTail V b) (jX_tail L b g) g := by
  have ht := hC.1
  have e20 := hC.2.1.1
  subst e20
  rw [jX_tail_eq, if_pos (kG' ht), cG_hasBlock ht hC.2.2.1, bnd]
  dsimp only
  rw [ifn]
  simp only [bns]
  unfold oTail
  by_cases hb : 0 ≤ b ∧ b < V 0 0
  · rw [if_pos hb, if_pos hb]
    obtain ⟨h, a1, a2⟩ := cX_allClear (L := L) (b := b) hV hC
    have hCh := ClV_cs hV hC a2
    rw [a1, bnd]
    dsimp only
    refine CO_t (Cs_hi a2) ?_
    by_cases hc : ncB V b = true
    · rw [if_pos hc, if_pos hc, if_neg (show ¬ (0 : Int) ≠ 0 by omega)]
      exact CO_N hV hCh
    · rw [if_neg hc, if_neg hc, if_pos (show (1 : Int) ≠ 0 by omega)]
      exact cX_tail42 hV hCh
  · rw [if_neg hb, if_neg hb]
    exact CO_B hV hC
end OPD
