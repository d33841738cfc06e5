/-! the class: what it tells of a plan -/
section OPC
variable {L : Nat} {V W X g h : AMem} {a b c d e f i j k kd l m n p q r s t w x : Int}
theorem PlW_k (hP : PlW L V e kd W q g) (hk : ∀ a k, (q ≤ a ∧ a ≤ q + 6) ∨ a < 115 → h a k = g a k) : PlW L V e kd W q h := by
  obtain ⟨⟨p1, p2, p3, p4⟩, ⟨p5, p6, p7, p8⟩, p9, p10⟩ := hP
  have e5 : h q 5 = g q 5 := hk _ _ (by omega)
  refine ⟨⟨by rw [hk _ _ (by omega)]; exact p1, by rw [hk _ _ (by omega)]; exact p2, by rw [hk _ _ (by omega)]; exact p3, by rw [hk _ _ (by omega)]; exact p4⟩, ⟨by rw [e5]; exact p5, by rw [e5]; exact p6, by rw [e5]; exact p7, fun i i0 i1 => by rw [e5, hk _ _ (by omega)]; exact p8 i i0 i1⟩, fun k k0 k1 => ?_, fun i i0 i1 => ?_⟩
  · rw [hk _ _ (by omega), hk _ _ (by omega), hk _ _ (by omega)]
    exact p9 k k0 k1
  · rw [hk _ _ (by omega), hk _ _ (by omega)]
    exact p10 i i0 i1
theorem cX_makePlan (hV : VaV V) (hC : ClV V t g) (hq : q = 118 ∨ q = 125) (he0 : 0 ≤ e) (he1 : e < V 0 1) : ∃ h, jX_makePlan L q e g = some h ∧ PlW L V e (V 0 2) (plV V e (V 0 2)) q h ∧ (∀ a k, a ≠ 116 → ¬ (q ≤ a ∧ a ≤ q + 6) → h a k = g a k) := by
  have h0 := hV.1
  have h1 := hV.2.1
  have ht := hC.1
  have e20 := hC.2.1.1
  subst e20
  have hE2 := hV.2.2.2.2.2.1 e he0 he1
  have hE := hC.2.2.1.2.2 e he0 he1
  have c16 : 0 ≤ e ∧ e < 16 := by omega
  have c10 : 0 ≤ V 3 e ∧ V 3 e < 10 := by omega
  obtain ⟨h, a1, a2, a3⟩ := cH_look (L := L) hV hC he0 he1
  obtain ⟨g1, b1, b2, b3⟩ := cP_make (kd := V 0 2) hV he0 he1 hq a3
  have e10 : h 2 10 = V 0 2 := by rw [a2 _ _ (by omega)]; exact hC.2.2.2.1.1
  refine ⟨g1, ?_, b2, fun a k c1 c2 => by rw [b3 a k c2, a2 a k c1]⟩
  rw [jX_makePlan_eq L q e g (kP' hq), if_pos (kG' ht), if_pos c16]
  simp only [hE.2.1]
  rw [if_pos c10, if_pos (kG' ht), if_pos c16, a1, bnd, e10, b1, bnd]
theorem cP_countSort (hq : q = 118 ∨ q = 125) (hP : PlW L V e kd W q g) (h0 : 0 ≤ W 0 0) (h9 : W 0 0 ≤ 9) : jPl_countSort L q s g = some (cnB (fun k => decide (W 1 k = s)) (W 0 0).toNat, g) := by
  rw [jPl_countSort_eq L q s g (kP' hq)]
  refine lp (F := fun i => jPl_countSort_4 L q s (cnB (fun k => decide (W 1 k = s)) i.toNat) i g) (n := W 0 0) ?_ ?_ 0 (Int.le_refl _) h0
  · intro i h2 h3 ih
    have hc := cnB_b (f := fun k => decide (W 1 k = s)) (k := i.toNat)
    rw [cnB_s h2] at ih
    have hk := (hP.2.2.1 i h2 h3).1
    rw [jPl_countSort_4_eq L q s _ _ g (kP' hq), hP.1.1, if_neg (by omega), if_pos (by omega), iw_n (show 0 ≤ i + 1 by omega) (by omega), iw_n (show 0 ≤ cnB (fun k => decide (W 1 k = s)) i.toNat + 0 by omega) (by omega), iw_n (show 0 ≤ cnB (fun k => decide (W 1 k = s)) i.toNat + 1 by omega) (by omega)]
    by_cases c : W 1 i = s
    · rw [if_neg (show ¬ g (q + 1) i ≠ s by rw [hk]; simp [c])]
      rw [if_pos (by simp [c])] at ih
      exact ih
    · rw [if_pos (show g (q + 1) i ≠ s by rw [hk]; exact c)]
      rw [if_neg (by simp [c])] at ih
      exact ih
  · rw [jPl_countSort_4_eq L q s _ _ g (kP' hq), hP.1.1, if_pos (Int.le_refl _)]
theorem cP_countToSpare (hq : q = 118 ∨ q = 125) (hP : PlW L V e kd W q g) (hS : SO W) (h9 : W 0 0 ≤ 9) : jPl_countToSpare L q g = some (cdV 4 W, g) := by
  have h0 := hS.1
  rw [jPl_countToSpare_eq L q g (kP' hq)]
  unfold cdV
  refine lp (F := fun i => jPl_countToSpare_4 L q (cnB (cd1 4 W) i.toNat) i g) (n := W 0 0) ?_ ?_ 0 (Int.le_refl _) h0
  · intro i h2 h3 ih
    have hc := cnB_b (f := cd1 4 W) (k := i.toNat)
    rw [cnB_s h2] at ih
    have hk := (hP.2.2.1 i h2 h3).2.1
    have hb := stp_t (hS.2 i h2 h3)
    have hcd : cd1 4 W i = decide (320 ≤ W 2 i) := by
      unfold cd1
      rw [if_neg (by omega), if_pos rfl]
    rw [hcd] at ih
    rw [jPl_countToSpare_4_eq L q _ _ g (kP' hq), hP.1.1, if_neg (by omega), if_pos (by omega), hk, cRg_firstByte hb.1 (by omega), bnd, iw_n (show 0 ≤ i + 1 by omega) (by omega), iw_n (show 0 ≤ cnB (cd1 4 W) i.toNat + 0 by omega) (by omega), iw_n (show 0 ≤ cnB (cd1 4 W) i.toNat + 1 by omega) (by omega)]
    dsimp only
    by_cases c : 320 ≤ W 2 i
    · rw [if_neg (show ¬ W 2 i / 10 ≠ 32 by omega)]
      rw [if_pos (by simp [c])] at ih
      exact ih
    · rw [if_pos (show W 2 i / 10 ≠ 32 by omega)]
      rw [if_neg (by simp [c])] at ih
      exact ih
  · rw [jPl_countToSpare_4_eq L q _ _ g (kP' hq), hP.1.1, if_pos (Int.le_refl _)]
theorem cP_price (hq : q = 118 ∨ q = 125) (hP : PlW L V e kd W q g) (hS : SO W) (h9 : W 0 0 ≤ 9) : jPl_price L q g = some (csV kd W, g) := by
  have h0 := hS.1
  rw [jPl_price_eq L q g (kP' hq)]
  unfold csV
  refine lpx (F := fun i w => jPl_price_4 L q (smI (cs1 kd W) i.toNat) i w g) (I := fun _ _ => True) (P := fun o => o = some (smI (cs1 kd W) (W 0 0).toNat, g)) (n := W 0 0) ?_ ?_ 0 vU (Int.le_refl _) h0 trivial
  · intro i w h2 h3 _ ih
    have ih := fun w => ih w trivial
    rw [smI_s h2] at ih
    have hb := smI_b (f := cs1 kd W) (c := 9) (fun i => cs1_b) (k := i.toNat)
    have hb1 := cs1_b (kd := kd) (W := W) (k := i)
    have hk := hP.2.2.1 i h2 h3
    have ht := stp_t (hS.2 i h2 h3)
    have hcc : cs1 kd W i = if W 1 i = 1 then chC kd (W 2 i % 10) else mvC kd (W 2 i % 10) := rfl
    have c9 : 0 ≤ i ∧ i < 9 := by omega
    rw [jPl_price_4_eq L q _ _ w g (kP' hq), hP.1.1, if_neg (by omega), if_pos c9, hk.2.1, cRg_width ht.1 (by omega), bnd]
    dsimp only
    rw [if_pos c9, hP.1.2.1, iw_n (show 0 ≤ i + 1 by omega) (by omega)]
    by_cases c : W 1 i = 1
    · rw [if_pos c] at hcc
      rw [if_neg (show ¬ g (q + 1) i ≠ 1 by rw [hk.1]; simp [c]), cPr_change (by omega) (by omega), bnd]
      dsimp only
      rw [← hcc, iw_n (by omega) (by omega)]
      exact ih _
    · rw [if_neg c] at hcc
      rw [if_pos (show g (q + 1) i ≠ 1 by rw [hk.1]; exact c), cPr_move (by omega) (by omega), bnd]
      dsimp only
      rw [← hcc, iw_n (by omega) (by omega)]
      exact ih _
  · intro w _
    rw [jPl_price_4_eq L q _ _ w g (kP' hq), hP.1.1, if_pos (Int.le_refl _)]
theorem cnB_t : ∀ {k : Nat}, cnB (fun _ => true) k = k
  | 0 => rfl
  | k + 1 => by
    rw [cnB, cnB_t, if_pos rfl]
    omega
theorem cX_steps (hV : VaV V) (hC : ClV V t g) : CO (oSteps V e w) (jX_steps L e w g) g := by
  have ew : (if 0 ≤ w ∧ w < 5 then (1 : Int) else 0) = (if 0 ≤ w ∧ w ≤ 4 then 1 else 0) := by
    split <;> split <;> omega
  rw [jX_steps_eq, cX_isBelow, bnd]
  simp only [bns]
  rw [ew]
  unfold oSteps
  have key := cX_ref (L := L) (e := e) (r := if 0 ≤ w ∧ w ≤ 4 then 1 else 0) (o := (cdV w (plV V e (V 0 2)), V)) (F := fun h => (jX_makePlan L 118 e h).bind (fun q4 => if w = 0 then (some (q4 118 3, q4)) else (if w = 1 then (jPl_countSort L 118 0 q4) else (if w = 2 then (jPl_countSort L 118 1 q4) else (if w = 3 then (jPl_countSort L 118 2 q4) else (jPl_countToSpare L 118 q4)))))) hV hC (fun he0 he1 hr _ h hh => by
    have hw : 0 ≤ w ∧ w ≤ 4 := b2n.mp hr
    obtain ⟨g1, a1, a2, a3⟩ := cX_makePlan (L := L) (q := 118) hV hh (Or.inl rfl) he0 he1
    have h9 := plV_9 (kd := V 0 2) hV he0 he1
    have hS : Cs h g1 := fun a k c => a3 a k (by omega) (by omega)
    rw [a1, bnd]
    by_cases w0 : w = 0
    · rw [if_pos w0, a2.1.1]
      have : cdV w (plV V e (V 0 2)) = plV V e (V 0 2) 0 0 := by
        unfold cdV
        have : cd1 w (plV V e (V 0 2)) = fun _ => true := by
          funext k
          unfold cd1
          rw [if_pos w0]
        rw [this, cnB_t]
        have := h9.1.1
        omega
      rw [this]
      exact CO_c hV hh hS
    · rw [if_neg w0]
      have hcd : w ≠ 4 → cdV w (plV V e (V 0 2)) = cnB (fun k => decide (plV V e (V 0 2) 1 k = w - 1)) (plV V e (V 0 2) 0 0).toNat := fun w4 => by
        unfold cdV
        congr 1
        funext k
        unfold cd1
        rw [if_neg w0, if_neg w4]
      by_cases w1 : w = 1
      · rw [if_pos w1, cP_countSort (Or.inl rfl) a2 h9.1.1 h9.2, hcd (by omega), w1]
        exact CO_c hV hh hS
      · rw [if_neg w1]
        by_cases w2 : w = 2
        · rw [if_pos w2, cP_countSort (Or.inl rfl) a2 h9.1.1 h9.2, hcd (by omega), w2]
          exact CO_c hV hh hS
        · rw [if_neg w2]
          by_cases w3 : w = 3
          · rw [if_pos w3, cP_countSort (Or.inl rfl) a2 h9.1.1 h9.2, hcd (by omega), w3]
            exact CO_c hV hh hS
          · rw [if_neg w3, cP_countToSpare (Or.inl rfl) a2 h9.1 h9.2, show w = 4 by omega]
            exact CO_c hV hh hS)
  rw [ifn] at key
  exact key
theorem cX_stepF (hV : VaV V) (hC : ClV V t g) (he0 : 0 ≤ e) (he1 : e < V 0 1) (hk : 0 ≤ k) (hw0 : 0 ≤ w) (hw : w ≤ 2) : CO (stA (plV V e (V 0 2)) k w, V) ((jX_makePlan L 118 e g).bind (fun q26 => if k < q26 118 3 then (if w = 0 then (if 0 ≤ k ∧ k < 9 then (some (q26 119 k, q26)) else none) else (if w = 1 then (if 0 ≤ k ∧ k < 9 then (some (q26 120 k, q26)) else none) else (if 0 ≤ k ∧ k < 9 then (some (q26 121 k, q26)) else none))) else (some ((-201), q26)))) g := by
  obtain ⟨g1, a1, a2, a3⟩ := cX_makePlan (L := L) (q := 118) hV hC (Or.inl rfl) he0 he1
  have h9 := plV_9 (kd := V 0 2) hV he0 he1
  have hS : Cs g g1 := fun a k c => a3 a k (by omega) (by omega)
  have e3 : g1 118 3 = plV V e (V 0 2) 0 0 := a2.1.1
  rw [a1, bnd]
  unfold stA
  by_cases c : k < plV V e (V 0 2) 0 0
  · have hq := a2.2.2.1 k hk c
    have e119 : g1 119 k = plV V e (V 0 2) 1 k := hq.1
    have e120 : g1 120 k = plV V e (V 0 2) 2 k := hq.2.1
    have e121 : g1 121 k = plV V e (V 0 2) 3 k := hq.2.2
    have c9 : 0 ≤ k ∧ k < 9 := by omega
    rw [if_pos c, if_pos (show k < g1 118 3 by omega), if_pos c9, if_pos c9, if_pos c9, e119, e120, e121]
    by_cases w0 : w = 0
    · rw [if_pos w0, if_pos w0]
      exact CO_c hV hC hS
    · rw [if_neg w0, if_neg w0]
      by_cases w1 : w = 1
      · rw [if_pos w1, if_pos w1]
        exact CO_c hV hC hS
      · rw [if_neg w1, if_neg w1]
        exact CO_c hV hC hS
  · rw [if_neg c, if_neg (show ¬ k < g1 118 3 by omega)]
    exact CO_c hV hC hS
theorem cX_step (hV : VaV V) (hC : ClV V t g) : CO (oStep V e k w) (jX_step L e k w g) g := by
  rw [jX_step_eq]
  simp only [bns]
  unfold oStep
  by_cases hk : k < 0
  · rw [if_pos hk, if_pos hk]
    have key := cX_ref (L := L) (e := e) (r := 0) (o := (0, V)) (F := fun h => (jX_makePlan L 118 e h).bind (fun q26 => if k < q26 118 3 then (if w = 0 then (if 0 ≤ k ∧ k < 9 then (some (q26 119 k, q26)) else none) else (if w = 1 then (if 0 ≤ k ∧ k < 9 then (some (q26 120 k, q26)) else none) else (if 0 ≤ k ∧ k < 9 then (some (q26 121 k, q26)) else none))) else (some ((-201), q26)))) hV hC (fun _ _ hr => absurd rfl hr)
    rw [if_neg (show ¬ (0 : Int) ≠ 0 by omega)] at key
    exact key
  · rw [if_neg hk, if_neg hk, cX_isBelow, bnd]
    dsimp only
    rw [ifz]
    by_cases hw : 0 ≤ w ∧ w ≤ 2
    · rw [if_pos (show 0 ≤ w ∧ w < 3 by omega), if_pos hw]
      have key := cX_ref (L := L) (e := e) (r := 1) (o := (stA (plV V e (V 0 2)) k w, V)) (F := fun h => (jX_makePlan L 118 e h).bind (fun q26 => if k < q26 118 3 then (if w = 0 then (if 0 ≤ k ∧ k < 9 then (some (q26 119 k, q26)) else none) else (if w = 1 then (if 0 ≤ k ∧ k < 9 then (some (q26 120 k, q26)) else none) else (if 0 ≤ k ∧ k < 9 then (some (q26 121 k, q26)) else none))) else (some ((-201), q26)))) hV hC (fun he0 he1 _ _ h hh => cX_stepF hV hh he0 he1 (by omega) hw.1 hw.2)
      rw [if_pos (show (1 : Int) ≠ 0 by omega)] at key
      exact key
    · rw [if_neg (show ¬ (0 ≤ w ∧ w < 3) by omega), if_neg hw]
      have key := cX_ref (L := L) (e := e) (r := 0) (o := (0, V)) (F := fun h => (jX_makePlan L 118 e h).bind (fun q26 => if k < q26 118 3 then (if w = 0 then (if 0 ≤ k ∧ k < 9 then (some (q26 119 k, q26)) else none) else (if w = 1 then (if 0 ≤ k ∧ k < 9 then (some (q26 120 k, q26)) else none) else (if 0 ≤ k ∧ k < 9 then (some (q26 121 k, q26)) else none))) else (some ((-201), q26)))) hV hC (fun _ _ hr => absurd rfl hr)
      rw [if_neg (show ¬ (0 : Int) ≠ 0 by omega)] at key
      exact key
theorem cX_cost (hV : VaV V) (hC : ClV V t g) : CO (oCost V e) (jX_cost L e g) g := by
  rw [jX_cost_eq]
  simp only [bns]
  unfold oCost
  have key := cX_ref (L := L) (e := e) (r := 1) (o := (coV V e (V 0 2), V)) (F := fun h => (jX_makePlan L 118 e h).bind (fun q3 => jPl_price L 118 q3)) hV hC (fun he0 he1 _ _ h hh => by
    obtain ⟨g1, a1, a2, a3⟩ := cX_makePlan (L := L) (q := 118) hV hh (Or.inl rfl) he0 he1
    have h9 := plV_9 (kd := V 0 2) hV he0 he1
    have hS : Cs h g1 := fun a k c => a3 a k (by omega) (by omega)
    rw [a1, bnd, cP_price (Or.inl rfl) a2 h9.1 h9.2]
    exact CO_c hV hh hS)
  rw [if_pos (show (1 : Int) ≠ 0 by omega)] at key
  exact key
theorem cX_priceBy (hV : VaV V) (hC : ClV V t g) (he0 : 0 ≤ e) (he1 : e < V 0 1) : ∃ h, jX_priceBy L e kd g = some (coV V e kd, h) ∧ Cs g h := by
  have h0 := hV.1
  have h1 := hV.2.1
  have ht := hC.1
  have e20 := hC.2.1.1
  subst e20
  have hE2 := hV.2.2.2.2.2.1 e he0 he1
  have hE := hC.2.2.1.2.2 e he0 he1
  have c16 : 0 ≤ e ∧ e < 16 := by omega
  have c10 : 0 ≤ V 3 e ∧ V 3 e < 10 := by omega
  obtain ⟨h, a1, a2, a3⟩ := cH_look (L := L) hV hC he0 he1
  obtain ⟨g1, b1, b2, b3⟩ := cP_make (kd := kd) hV he0 he1 (Or.inl rfl) a3
  have h9 := plV_9 (kd := kd) hV he0 he1
  refine ⟨g1, ?_, fun a k c => by rw [b3 a k (by omega), a2 a k (by omega)]⟩
  rw [jX_priceBy_eq, if_pos (kG' ht), if_pos c16]
  simp only [hE.2.1]
  rw [if_pos c10, if_pos (kG' ht), if_pos c16, a1, bnd, b1, bnd, bns, cP_price (Or.inl rfl) b2 h9.1 h9.2]
  rfl
theorem cX_cheapest (hV : VaV V) (hC : ClV V t g) : CO (oCheapest V e w) (jX_cheapest L e w g) g := by
  have ew : (if 0 ≤ w ∧ w < 2 then (1 : Int) else 0) = (if 0 ≤ w ∧ w ≤ 1 then 1 else 0) := by
    split <;> split <;> omega
  rw [jX_cheapest_eq, cX_isBelow, bnd]
  simp only [bns]
  rw [ew]
  unfold oCheapest
  have hF : ∀ z : Int, 0 ≤ e → e < V 0 1 → (if 0 ≤ w ∧ w ≤ 1 then (1 : Int) else 0) ≠ 0 → clB V e = true → ∀ h, ClV V t h → CO (if w = 0 then (chp V e 5).1 else (chp V e 5).2, V) ((jX_priceBy L e 0 h).bind (fun q4 => jX_cheapest_35 L e w z 0 q4.1 1 vU q4.2)) h := by
    intro z he0 he1 _ _ h hh
    obtain ⟨g1, a1, a2⟩ := cX_priceBy (L := L) (kd := 0) hV hh he0 he1
    have hb := coV_b (kd := 0) hV he0 he1
    rw [a1, bnd]
    have hc1 : chp V e (1 : Int).toNat = (0, coV V e 0) := by
      rw [show (1 : Int).toNat = 0 + 1 by rfl, chp, chp]
      dsimp only
      rw [if_pos (show coV V e ((0 : Nat) : Int) < 1048576 by have : coV V e ((0 : Nat) : Int) = coV V e 0 := rfl; omega)]
      rfl
    have := lpx (F := fun i s => jX_cheapest_35 L e w z (chp V e i.toNat).1 (chp V e i.toNat).2 i s.1 s.2) (σ := AVal × AMem) (I := fun _ s => Cs h s.2) (P := fun o => CO (if w = 0 then (chp V e 5).1 else (chp V e 5).2, V) o h) (n := 5) (fun i s h2 h3 hI ih => by
      rw [chp_s h2] at ih
      have hCs := ClV_cs hV hh hI
      obtain ⟨g2, b1, b2⟩ := cX_priceBy (L := L) (kd := i) hV hCs he0 he1
      rw [jX_cheapest_35_eq, if_neg (show ¬ 5 ≤ i by omega), b1, bnd, iw_n (show 0 ≤ i + 1 by omega) (by omega)]
      dsimp only
      by_cases c : coV V e i < (chp V e i.toNat).2
      · rw [if_neg (show ¬ (chp V e i.toNat).2 ≤ coV V e i by omega)]
        rw [if_pos c] at ih
        exact ih (vI (coV V e i), g2) (Cs_t hI b2)
      · rw [if_pos (show (chp V e i.toNat).2 ≤ coV V e i by omega)]
        rw [if_neg c] at ih
        exact ih (vI (coV V e i), g2) (Cs_t hI b2)) (fun s hI => by
      rw [jX_cheapest_35_eq, if_pos (show (5 : Int) ≤ 5 by omega), show (5 : Int).toNat = 5 by rfl]
      by_cases w0 : w = 0
      · rw [if_pos w0, if_neg (show ¬ w ≠ 0 by omega)]
        exact CO_c hV hh hI
      · rw [if_neg w0, if_pos w0]
        exact CO_c hV hh hI) 1 (vU, g1) (by omega) (by omega) a2
    dsimp only at this
    rw [hc1] at this
    exact this
  have key := fun z : Int => cX_ref (L := L) (e := e) (r := if 0 ≤ w ∧ w ≤ 1 then 1 else 0) (o := (if w = 0 then (chp V e 5).1 else (chp V e 5).2, V)) (F := fun h => (jX_priceBy L e 0 h).bind (fun q4 => jX_cheapest_35 L e w 0 0 q4.1 1 vU q4.2)) hV hC (hF 0)
  have key := key 0
  rw [ifn] at key
  have hcg : (fun q2 : Int × AMem => if q2.1 = 0 then ((jX_priceBy L e 0 q2.2).bind (fun q4 => jX_cheapest_35 L e w q2.1 0 q4.1 1 vU q4.2)) else (jX_refuse L q2.1 q2.2)) = fun q2 => if q2.1 = 0 then ((jX_priceBy L e 0 q2.2).bind (fun q4 => jX_cheapest_35 L e w 0 0 q4.1 1 vU q4.2)) else (jX_refuse L q2.1 q2.2) := by
    funext q2
    by_cases c : q2.1 = 0
    · rw [if_pos c, if_pos c, c]
    · rw [if_neg c, if_neg c]
  rw [hcg]
  exact key
end OPC
