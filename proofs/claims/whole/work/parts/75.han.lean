/-! the class: refusals, of, free -/
section HAO
variable {L : Nat} {V g h : AMem} {a b c e f i j k l p r t w x : Int}
def H6 (g h : AMem) : Prop := ∀ a k, a ≠ 116 → h a k = g a k
theorem H6_c (hS : H6 g h) : Cs g h := fun a k q => hS a k (by omega)
theorem cX_refusalFor (hV : VaV V) (hC : ClV V t g) : ∃ h, jX_refusalFor L e r g = some (if 0 ≤ e ∧ e < V 0 1 then (if r ≠ 0 then (if clB V e = true then 0 else -203) else -202) else -202, h) ∧ H6 g h := by
  have ht := hC.1
  have e20 := hC.2.1.1
  subst e20
  rw [jX_refusalFor_eq, if_pos (kG' ht), cG_hasEdge ht hC.2.2.1, bnd]
  dsimp only
  rw [ifz]
  by_cases he : 0 ≤ e ∧ e < V 0 1
  · rw [if_pos he, if_pos he]
    by_cases hr : r = 0
    · rw [if_neg (show ¬ r ≠ 0 by omega), if_neg (show ¬ r ≠ 0 by omega)]
      exact ⟨g, rfl, fun _ _ _ => rfl⟩
    · rw [if_pos hr, if_pos hr]
      obtain ⟨h, a1, a2, a3⟩ := cX_isClear (L := L) hV hC he.1 he.2
      rw [a1, bnd]
      dsimp only
      rw [ifz]
      refine ⟨h, ?_, a2⟩
      split <;> rfl
  · rw [if_neg he, if_neg he]
    exact ⟨g, rfl, fun _ _ _ => rfl⟩
theorem cX_ref {F : AMem → Option (Int × AMem)} {o : Int × AMem} (hV : VaV V) (hC : ClV V t g) (hF : 0 ≤ e → e < V 0 1 → r ≠ 0 → clB V e = true → ∀ h, ClV V t h → CO o (F h) h) : CO (if 0 ≤ e ∧ e < V 0 1 then (if r ≠ 0 then (if clB V e = true then o else rN V) else rB V) else rB V) ((jX_refusalFor L e r g).bind (fun q => if q.1 = 0 then F q.2 else (jX_refuse L q.1 q.2))) g := by
  obtain ⟨h, a1, a2⟩ := cX_refusalFor (L := L) (e := e) (r := r) hV hC
  have hCh := ClV_cs hV hC (H6_c a2)
  refine CO_t (Cs_hi (H6_c a2)) ?_
  rw [a1, bnd]
  dsimp only
  by_cases he : 0 ≤ e ∧ e < V 0 1
  · rw [if_pos he, if_pos he]
    by_cases hr : r = 0
    · rw [if_neg (show ¬ r ≠ 0 by omega), if_neg (show ¬ r ≠ 0 by omega), if_neg (by omega)]
      exact CO_B hV hCh
    · rw [if_pos hr, if_pos hr]
      by_cases hc : clB V e = true
      · rw [if_pos hc, if_pos hc, if_pos rfl]
        exact hF he.1 he.2 hr hc h hCh
      · rw [if_neg hc, if_neg hc, if_neg (by omega)]
        exact CO_N hV hCh
  · rw [if_neg he, if_neg he, if_neg (by omega)]
    exact CO_B hV hCh
theorem cX_of (hV : VaV V) (hC : ClV V t g) : CO (oOf V e w) (jX_of L e w g) g := by
  have ht := hC.1
  have h1 := hV.2.1
  have e20 := hC.2.1.1
  subst e20
  rw [jX_of_eq, if_pos (kG' ht), cG_hasEdge ht hC.2.2.1, bnd]
  dsimp only
  rw [ifz, cX_isBelow, bnd]
  dsimp only
  rw [ifn, if_pos (kG' ht), if_pos (kG' ht), if_pos (kG' ht), if_pos (kG' ht)]
  simp only [bns]
  unfold oOf
  by_cases he : 0 ≤ e ∧ e < V 0 1
  · have c16 : 0 ≤ e ∧ e < 16 := by omega
    have hE := hC.2.2.1.2.2 e he.1 he.2
    rw [if_pos he, if_pos he, if_pos c16, if_pos c16, if_pos c16, hE.1, hE.2.1, hE.2.2.1, cG_whereStepsGo hV ht hC.2.2.1 he.1 he.2]
    by_cases hw : 0 ≤ w ∧ w ≤ 4
    · rw [if_pos hw, if_pos (show 0 ≤ w ∧ w < 5 by omega)]
      by_cases w0 : w = 0
      · rw [if_pos w0, if_pos w0]
        exact CO_s hC
      · rw [if_neg w0, if_neg w0]
        by_cases w1 : w = 1
        · rw [if_pos w1, if_pos w1]
          exact CO_s hC
        · rw [if_neg w1, if_neg w1]
          by_cases w2 : w = 2
          · rw [if_pos w2, if_pos w2]
            exact CO_s hC
          · rw [if_neg w2, if_neg w2]
            by_cases w3 : w = 3
            · rw [if_pos w3, if_pos w3]
              obtain ⟨h, a1, a2, a3⟩ := cX_isClear (L := L) hV hC he.1 he.2
              rw [a1, bnd]
              dsimp only
              rw [ifz]
              by_cases hc : clB V e = true
              · rw [if_pos hc, if_pos hc]
                exact CO_c hV hC (H6_c a2)
              · rw [if_neg hc, if_neg hc]
                exact CO_c hV hC (H6_c a2)
            · rw [if_neg w3, if_neg w3]
              exact CO_s hC
    · rw [if_neg hw, if_neg (show ¬ (0 ≤ w ∧ w < 5) by omega)]
      exact CO_B hV hC
  · rw [if_neg he, if_neg he]
    exact CO_B hV hC
theorem cH_touches (hV : VaV V) (he0 : 0 ≤ e) (he1 : e < V 0 1) (hH : Ho L V e g) (hr : 0 ≤ r ∧ r < 1000000) : jHo_touches L r g = some (if tcB V e r = true then 1 else 0, g) := by
  have hn := edg_n hV he0 he1
  rw [jHo_touches_eq]
  have hmain : ∀ (m : Nat) (i : Int), 0 ≤ i → i + m = V 1 (V 3 e) → anB (tcF V e r) i.toNat = false → jHo_touches_2 L r i g = some (if tcB V e r = true then 1 else 0, g) := by
    intro m
    induction m with
    | zero =>
      intro i i0 i1 hf
      rw [jHo_touches_2_eq, hH.2.2.1, if_pos (by omega), if_neg]
      unfold tcB
      rw [show (V 1 (V 3 e)).toNat = i.toNat by omega, hf]
      simp
    | succ m ih =>
      intro i i0 i1 hf
      have hb := edg_b hV he0 he1 i0 (show i < V 1 (V 3 e) by omega)
      have c0 : 0 ≤ i ∧ i < aln (SH L) (g 116 0) := by rw [hH.1.2.1]; omega
      have c1 : 0 ≤ i ∧ i < aln (SH L) (g 116 1) := by rw [hH.2.1.2.1]; omega
      have hg := hH.2.2.2 i i0 (by omega)
      have hF : tcF V e r i = (shB (V (10 + V 3 e) i) r || (decide (0 ≤ V (20 + e) i) && shB (V (20 + e) i) r)) := rfl
      have hit : tcF V e r i = true → tcB V e r = true := fun q => anB_t.mpr ⟨i, i0, by omega, q⟩
      rw [jHo_touches_2_eq, hH.2.2.1, if_neg (by omega), if_pos hH.1.1, if_pos c0, hg.1, cRg_shareByte (by omega) (by omega) hr.1 hr.2, bnd]
      dsimp only
      rw [ifz, if_pos hH.2.1.1, if_pos c1, if_pos hH.2.1.1, if_pos c1, iw_n (by omega) (by omega)]
      simp only [hg.2]
      by_cases q1 : shB (V (10 + V 3 e) i) r = true
      · rw [if_pos q1, if_pos (hit (by rw [hF, q1]; rfl))]
      · rw [if_neg q1]
        by_cases q2 : V (20 + e) i < 0
        · rw [if_pos q2]
          exact ih (i + 1) (by omega) (by omega) (by rw [anB_s i0, hf, hF, Bool.eq_false_iff.mpr q1, decide_eq_false (by omega)]; rfl)
        · rw [if_neg q2, cRg_shareByte (by omega) (by omega) hr.1 hr.2, bnd]
          dsimp only
          rw [ifz]
          by_cases q3 : shB (V (20 + e) i) r = true
          · rw [if_pos q3, if_pos (hit (by rw [hF, q3, decide_eq_true (show 0 ≤ V (20 + e) i by omega)]; simp))]
          · rw [if_neg q3]
            exact ih (i + 1) (by omega) (by omega) (by rw [anB_s i0, hf, hF, Bool.eq_false_iff.mpr q1, Bool.eq_false_iff.mpr q3]; simp)
  exact hmain (V 1 (V 3 e)).toNat 0 (by omega) (by omega) rfl
theorem cX_fr52 (hV : VaV V) (he0 : 0 ≤ e) (he1 : e < V 0 1) (hH : Ho L V e g) (hw : w = 1 ∨ w = 2 ∨ w = 4) : ∀ (m : Nat) (b : Int) (x : AVal), 0 ≤ b → b % w = 0 → b ≤ 32 → 32 < b + m → jX_free_52 L e w b x g = some (frK V e w m b, g)
  | 0, b, x, b0, bm, b32, hb => by omega
  | m + 1, b, x, b0, bm, b32, hb => by
    have hx : 32 < b + w ↔ 32 ≤ b := by
      rcases hw with q | q | q <;> subst q <;> omega
    rw [jX_free_52_eq, iw_n (show 0 ≤ b + w by omega) (by omega), frK]
    by_cases q : 32 ≤ b
    · rw [if_pos q, if_pos (hx.mpr q)]
    · rw [if_neg q, if_neg (fun h => q (hx.mp h)), jRg_asTold_eq, bnd, iw_n (show 0 ≤ 10 * b by omega) (by omega), iw_n (show 0 ≤ 10 * b + w by omega) (by omega)]
      dsimp only
      rw [cH_touches hV he0 he1 hH (by omega), bnd]
      dsimp only
      rw [ifn]
      by_cases q2 : tcB V e (10 * b + w) = true
      · rw [if_pos q2, if_pos q2]
        exact cX_fr52 hV he0 he1 hH hw m (b + w) _ (by omega) (by rcases hw with q | q | q <;> subst q <;> omega) (by rcases hw with q | q | q <;> subst q <;> omega) (by omega)
      · rw [if_neg q2, if_neg q2]
theorem cX_free (hV : VaV V) (hC : ClV V t g) : CO (oFree V e w) (jX_free L e w g) g := by
  have ht := hC.1
  have h0 := hV.1
  have h1 := hV.2.1
  have e20 := hC.2.1.1
  subst e20
  rw [jX_free_eq, if_pos (kG' ht), cG_hasEdge ht hC.2.2.1, bnd]
  dsimp only
  rw [ifz, cRg_isWidth, bnd]
  dsimp only
  rw [ifn, if_pos (kG' ht), if_pos (kG' ht)]
  simp only [bns]
  unfold oFree
  by_cases he : 0 ≤ e ∧ e < V 0 1
  · have c16 : 0 ≤ e ∧ e < 16 := by omega
    have hE := hC.2.2.1.2.2 e he.1 he.2
    have hE2 := hV.2.2.2.2.2.1 e he.1 he.2
    have c10 : 0 ≤ V 3 e ∧ V 3 e < 10 := by omega
    rw [if_pos he, if_pos he, if_pos c16, if_pos c16]
    simp only [hE.2.1]
    rw [if_pos c10]
    by_cases hw : isW w = true
    · have hw2 := hw
      unfold isW at hw2
      simp only [decide_eq_true_eq] at hw2
      obtain ⟨h, a1, a2, a3⟩ := cH_look (L := L) hV hC he.1 he.2
      rw [if_pos hw, if_pos hw, a1, bnd, cX_fr52 hV he.1 he.2 a3 hw2 33 0 vU (by omega) (by simp) (by omega) (by omega)]
      exact CO_c hV hC (H6_c a2)
    · rw [if_neg hw, if_neg hw]
      exact CO_B hV hC
  · rw [if_neg he, if_neg he]
    exact CO_B hV hC
end HAO
