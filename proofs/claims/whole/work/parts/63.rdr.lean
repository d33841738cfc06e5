/-! the reference reads: blocks, edges -/
def RM (V : AMem) (r : PRes) (q : Option (Int × AMem)) (g : AMem) : Prop := ∃ g', q = some (if r.1 = true then 1 else 0, g') ∧ Rd V r.2.2 r.2.1 g' ∧ Lr g g'
section RDB
variable {L : Nat} {V W g h : AMem} {a b c e f hi i j lo n p q t w x : Int}
theorem RM_t {r : PRes} {o : Option (Int × AMem)} (h1 : Lr g h) (h2 : RM V r o h) : RM V r o g := by
  obtain ⟨g', a1, a2, a3⟩ := h2
  exact ⟨g', a1, a2, Lr_t h1 a3⟩
theorem RM_f (hR : Rd V W p g) : RM V (false, p, W) (some (0, g)) g := ⟨g, rfl, hR, fun _ _ _ => rfl⟩
theorem cM_ends (hR : Rd V W p g) : RM V (pEnd V W p) (jM_ends L g) g := by
  obtain ⟨g1, a1, a2, a3⟩ := cM_skip (L := L) hR
  have hb := Rd_b hR
  have hs := skT_b (V := V) hR.2.2.2.2.2
  have hr5 := hR.2.2.2.2.1
  rw [jM_ends_eq, a1, bnd, cM_here a2, bnd]
  unfold pEnd
  dsimp only
  by_cases q : skT V p < V 0 6 ∧ V 5 (skT V p) = 59
  · rw [if_pos q, if_pos q.1, if_pos q.2, a2.2.2.2.1, iw_n (by omega) (by omega)]
    exact ⟨_, rfl, Rd_k a2 (Pk_u Pk_r (Or.inl rfl)) up_s (by dsimp only; omega) (by dsimp only; omega), Lr_t (Lr_p a3) (Lr_p (Pk_u Pk_r (Or.inl rfl)))⟩
  · rw [if_neg q]
    by_cases q1 : skT V p < V 0 6
    · rw [if_pos q1, if_neg (show ¬ V 5 (skT V p) = 59 from fun h => q ⟨q1, h⟩)]
      exact RM_t (Lr_p a3) (RM_f a2)
    · rw [if_neg q1, if_neg (show ¬ (-201 : Int) = 59 by omega)]
      exact RM_t (Lr_p a3) (RM_f a2)
theorem ite01 {r : PRes} {g' : AMem} : (if (if r.1 = true then (1 : Int) else 0) = 0 ∨ (if r.1 = true then (1 : Int) else 0) = 1 then some ((if r.1 = true then (1 : Int) else 0), g') else none) = some (if r.1 = true then (1 : Int) else 0, g') := by
  rw [if_pos (b2b.mpr trivial)]
theorem RM_e {r : PRes} {o : Option (Int × AMem)} (h : RM V r o g) : RM V r (o.bind (fun q => if q.1 = 0 ∨ q.1 = 1 then some (q.1, q.2) else none)) g := by
  obtain ⟨g', a1, a2, a3⟩ := h
  refine ⟨g', ?_, a2, a3⟩
  rw [a1, bnd]
  exact ite01
theorem cM_rdb30 (hb0 : 0 ≤ b) : ∀ (k : Nat) (W g : AMem) (p : Int) (y : AVal), Rd V W (skT V p) g → p ≤ V 0 6 → b < W 0 0 → W 1 b + k = 7 → RM V (pPar V b k W p) (jM_readsBlock_30 L b y g) g
  | 0, W, g, p, y, hR, hp, hb1, hk => by
    have hm := (hR.1.2.2.2.2.1 b hb0 hb1).1
    omega
  | k + 1, W, g, p, y, hR, hp, hb1, hk => by
    have hb := Rd_b hR
    have hs := skT_b (V := V) hp
    have hm := (hR.1.2.2.2.2.1 b hb0 hb1).1
    have h10 := hR.1.1
    have hf := fgT_b (V := V) (p := skT V p)
    have hq0 := hR.2.2.2.2.1
    rw [jM_readsBlock_30_eq, cM_here hR, bnd, cM_isFigure, bnd]
    dsimp only
    rw [ifz, pPar]
    by_cases h1 : skT V p < V 0 6 ∧ isF (V 5 (skT V p)) = true
    · have c10 : 0 ≤ b ∧ b < 10 := by omega
      have e139 := (hR.2.2.1.2.1 b hb0 hb1).1
      rw [if_pos h1, if_pos h1.1, if_pos h1.2, if_pos c10]
      by_cases h2 : W 1 b = 6
      · rw [if_pos h2, if_pos (show g 139 b = 6 by rw [e139]; exact h2)]
        exact RM_f hR
      · rw [if_neg h2, if_neg (show ¬ g 139 b = 6 by rw [e139]; exact h2)]
        obtain ⟨g1, a1, a2, a3, a4⟩ := cM_number (L := L) (lo := 0) (hi := 999) hR
        rw [skT_i] at a1 a3 a4
        rw [a1, bnd]
        dsimp only
        rw [ifn, hR.2.2.2.1]
        by_cases h3 : numB V (skT V p) 0 999 = true
        · have hn := numB_i.mp h3
          rw [if_pos h3] at a3
          have hv := a4 h3
          rw [if_pos h3, hv, cM_isRegion ⟨by omega, by omega⟩, bnd]
          dsimp only
          rw [ifz]
          have hback : Rd V W (skT V p) (up g1 137 25 (skT V p)) := Rd_k hR (Pk_t a2 (Pk_u Pk_r (Or.inl rfl))) up_s hq0 hs.2
          have hbl : Lr g (up g1 137 25 (skT V p)) := Lr_p (Pk_t a2 (Pk_u Pk_r (Or.inl rfl)))
          by_cases h4 : isRg (numV V (skT V p)) = true
          · rw [if_pos h4, hv, cM_isTaken a3.1 a3.2.2.1 hb0 hb1 ⟨by omega, by omega⟩, bnd]
            dsimp only
            rw [ifz]
            by_cases h5 : tkB W b (numV V (skT V p)) = true
            · rw [if_pos h5, if_neg (fun h => by rw [h5] at h; cases h.2.2)]
              exact ⟨_, rfl, hback, hbl⟩
            · rw [if_neg h5, if_pos ⟨h3, h4, Bool.eq_false_iff.mpr h5⟩]
              obtain ⟨g2, b1, b2, b3⟩ := cM_newParameter (L := L) (r := numV V (skT V p)) a3.1 a3.2.2.1 hb0 hb1 (by omega)
              rw [hv, b1, bnd]
              have hR2 : Rd V (npV W b (numV V (skT V p))) (skT V p + fgT V (skT V p)) g2 := ⟨VaV_np a3.1 hb0 hb1 (by omega) h4 (tkB_f (Bool.eq_false_iff.mpr h5)), TX_np a3.2.1 hb0, b2, by rw [b3 _ _ (by omega)]; exact a3.2.2.2.1, a3.2.2.2.2⟩
              obtain ⟨g3, c1, c2, c3⟩ := cM_skip (L := L) hR2
              rw [c1, bnd]
              exact RM_t (Lr_t (Lr_p a2) (Lr_t (Lr_l b3) (Lr_p c3))) (cM_rdb30 hb0 k _ g3 _ _ c2 (hf.2 hs.2) (by rw [np_b (by omega) (by omega) (by omega)]; exact hb1) (by rw [np_1 hb0]; omega))
          · rw [if_neg h4, if_neg (fun h => h4 h.2.1)]
            exact ⟨_, rfl, hback, hbl⟩
        · rw [if_neg h3] at a3
          rw [if_neg h3, if_neg (fun h => h3 h.1)]
          exact RM_t (Lr_p a2) (RM_f a3)
    · have he := RM_e (cM_ends (L := L) hR)
      have hpe : pEnd V W (skT V p) = pEnd V W p := by
        unfold pEnd
        rw [skT_i]
      rw [hpe] at he
      rw [if_neg h1]
      by_cases h2 : skT V p < V 0 6
      · rw [if_pos h2, if_neg (fun h => h1 ⟨h2, h⟩)]
        exact he
      · rw [if_neg h2, if_neg (show ¬ isF (-201) = true by decide)]
        exact he
theorem cM_readsBlock (hR : Rd V W p g) (hp : p < V 0 6) : RM V (pBlk V W p) (jM_readsBlock L g) g := by
  have h0 := hR.1.1
  have hb := Rd_b hR
  have hp0 := hR.2.2.2.2.1
  rw [jM_readsBlock_eq, hR.2.2.1.1.1]
  unfold pBlk
  by_cases q : W 0 0 = 10
  · rw [if_pos q, if_neg (by omega)]
    exact RM_f hR
  · rw [if_neg q, if_pos q, hR.2.2.2.1, iw_n (by omega) (by omega)]
    have hR1 : Rd V W (p + 1) (up g 137 25 (p + 1)) := Rd_k hR (Pk_u Pk_r (Or.inl rfl)) up_s (by omega) (by omega)
    obtain ⟨g2, b1, b2, b3⟩ := cM_newBlock (L := L) hR1.1 hR1.2.2.1 (by omega)
    have hR2 : Rd V (nbV W) (p + 1) g2 := ⟨VaV_nb hR.1 (by omega), TX_nb hR.2.1, b2, by rw [b3 _ _ (by omega), up_s], by omega, by omega⟩
    obtain ⟨g3, c1, c2, c3⟩ := cM_skip (L := L) hR2
    rw [b1, bnd, c1, bnd]
    exact RM_t (Lr_t (Lr_p (Pk_u Pk_r (Or.inl rfl))) (Lr_t (Lr_l b3) (Lr_p c3))) (cM_rdb30 h0.1 7 _ g3 _ _ c2 (by omega) (by rw [nb_0]; omega) (by rw [nb_1]; omega))
theorem cM_readsConstant (hR : Rd V W q g) (hq : q < V 0 6) : ∃ g', jM_readsConstant L g = some (if numB V (q + 1) 0 99 = true then -1 - numV V (q + 1) else 0, g') ∧ Rd V W (if numB V (q + 1) 0 99 = true then q + 1 + fgT V (q + 1) else q) g' ∧ Pk g g' := by
  have hb := Rd_b hR
  have hq0 := hR.2.2.2.2.1
  have hf := fgT_b (V := V) (p := q + 1)
  have hf2 := hf.2 (by omega)
  have e25 := hR.2.2.2.1
  rw [jM_readsConstant_eq, e25, iw_n (by omega) (by omega), cM_figures hR (by omega) (by omega), bnd]
  have fin : ∀ v, (1 ≤ fgT V (q + 1) ∧ fgT V (q + 1) ≤ 3 → v = numV V (q + 1)) → ∃ g', ((jM_in L (fgT V (q + 1)) 1 3 g).bind (fun q3 => if q3.1 = 0 then (some ((0 : Int), q3.2)) else (if v ≤ 99 then (some (iw ((-1) - v), up q3.2 137 25 (iw ((q3.2 137 25) + (iw (fgT V (q + 1) + 1)))))) else (some ((0 : Int), q3.2))))) = some (if numB V (q + 1) 0 99 = true then -1 - numV V (q + 1) else 0, g') ∧ Rd V W (if numB V (q + 1) 0 99 = true then q + 1 + fgT V (q + 1) else q) g' ∧ Pk g g' := by
    intro v hv
    rw [cM_in, bnd]
    dsimp only
    rw [ifz]
    by_cases h1 : 1 ≤ fgT V (q + 1) ∧ fgT V (q + 1) ≤ 3
    · have hnv := numV_b (V := V) (p := q + 1) h1.2
      rw [if_pos h1, hv h1]
      by_cases h2 : numV V (q + 1) ≤ 99
      · have hB : numB V (q + 1) 0 99 = true := numB_i.mpr ⟨h1.1, h1.2, hnv.1, h2⟩
        rw [if_pos h2, if_pos hB, if_pos hB, e25, iw_s (by omega), iw_n (show 0 ≤ fgT V (q + 1) + 1 by omega) (by omega), iw_n (by omega) (by omega)]
        exact ⟨_, rfl, Rd_k hR (Pk_u Pk_r (Or.inl rfl)) (by rw [up_s]; omega) (by omega) hf2, Pk_u Pk_r (Or.inl rfl)⟩
      · have hB : ¬ numB V (q + 1) 0 99 = true := fun h => h2 (numB_i.mp h).2.2.2
        rw [if_neg h2, if_neg hB, if_neg hB]
        exact ⟨g, rfl, hR, Pk_r⟩
    · have hB : ¬ numB V (q + 1) 0 99 = true := fun h => h1 ⟨(numB_i.mp h).1, (numB_i.mp h).2.1⟩
      rw [if_neg h1, if_neg hB, if_neg hB]
      exact ⟨g, rfl, hR, Pk_r⟩
  have hm : ∃ m, m = (if fgT V (q + 1) ≤ 3 then fgT V (q + 1) else 3) := ⟨_, rfl⟩
  obtain ⟨m, hm⟩ := hm
  have hm1 : 0 ≤ m ∧ m ≤ 3 ∧ m ≤ fgT V (q + 1) ∧ (fgT V (q + 1) ≤ 3 → m = fgT V (q + 1)) ∧ (3 < fgT V (q + 1) → m = 3) := by
    rw [hm]
    split <;> omega
  refine lp (F := fun i => jM_readsConstant_15 L (fgT V (q + 1)) (nvT V (q + 1) i.toNat) i g) (R := jM_readsConstant_15 L (fgT V (q + 1)) (nvT V (q + 1) m.toNat) m g) (n := m) ?_ rfl 0 (Int.le_refl _) hm1.1 ▸ ?_
  · intro i h2 h3 ih
    have hd := fgT_d (V := V) (p := q + 1) (j := i) h2 (by omega)
    have hv := nvT_b (V := V) (p := q + 1) (k := i.toNat) (by omega) (by omega)
    rw [nvT_s h2] at ih
    rw [jM_readsConstant_15_eq, if_neg (by omega), if_neg (by omega), e25, iw_n (show 0 ≤ q + 1 by omega) (by omega), iw_n (show 0 ≤ q + 1 + i by omega) (by omega), if_pos (by omega), (hb.2.2 (q + 1 + i) (by omega) hd.1).1, iw_n (show 0 ≤ 10 * nvT V (q + 1) i.toNat by omega) (by omega), iw_n (show 0 ≤ 10 * nvT V (q + 1) i.toNat + V 5 (q + 1 + i) by omega) (by omega), iw_n (show 0 ≤ 10 * nvT V (q + 1) i.toNat + V 5 (q + 1 + i) - 48 by omega) (by omega), iw_n (show 0 ≤ i + 1 by omega) (by omega)]
    exact ih
  · rw [jM_readsConstant_15_eq]
    by_cases h3 : fgT V (q + 1) ≤ m
    · rw [if_pos h3]
      refine fin _ (fun _ => ?_)
      unfold numV
      rw [show m = fgT V (q + 1) by omega]
    · rw [if_neg h3, if_pos (by omega)]
      exact fin _ (fun h => by omega)
theorem cM_readsGiven (hR : Rd V W p g) (he0 : 0 ≤ e) (he1 : e < W 0 1) (hi0 : 0 ≤ i) (hi1 : i < W 1 (W 3 e)) : RM V (pGiv V W e i p) (jM_readsGiven L e i g) g := by
  obtain ⟨g1, a1, a2, a3⟩ := cM_skip (L := L) hR
  have hb := Rd_b hR
  have hs := skT_b (V := V) hR.2.2.2.2.2
  have hq0 := a2.2.2.2.2.1
  have hn := edg_n hR.1 he0 he1
  have h16 := hR.1.2.1
  have c96 : 0 ≤ 6 * e + i ∧ 6 * e + i < 96 := by omega
  rw [jM_readsGiven_eq, a1, bnd, cM_here a2, bnd, a2.2.2.2.1, iw_n (show 0 ≤ 6 * e by omega) (by omega), iw_n (show 0 ≤ 6 * e + i by omega) (by omega)]
  dsimp only
  unfold pGiv
  have hback : ∀ h, Pk g1 h → RM V (false, skT V p, W) (some (0, up h 137 25 (skT V p))) g := fun h hP => ⟨_, rfl, Rd_k a2 (Pk_t hP (Pk_u Pk_r (Or.inl rfl))) up_s hq0 hs.2, Lr_t (Lr_p a3) (Lr_p (Pk_t hP (Pk_u Pk_r (Or.inl rfl))))⟩
  have hset : ∀ h v q, Rd V W q h → Pk g1 h → mgB v (W (10 + W 3 e) i) = true → RM V (true, q, up W (20 + e) i v) (some (1, up h 144 (6 * e + i) v)) g := by
    intro h v q hh hP hm
    unfold mgB at hm
    simp only [decide_eq_true_eq] at hm
    refine ⟨_, rfl, ⟨VaV_up hh.1 he0 hi0 hm, TX_up hh.2.1 he0, RfV_up hh.1 hh.2.2.1 he0 he1 hi0 (by omega), by rw [up_n (by omega)]; exact hh.2.2.2.1, hh.2.2.2.2⟩, Lr_t (Lr_p a3) (Lr_t (Lr_p hP) (fun a k q => up_n (by omega)))⟩
  by_cases h1 : skT V p < V 0 6 ∧ V 5 (skT V p) = 35
  · rw [if_pos h1, if_pos h1.1, if_neg (show ¬ V 5 (skT V p) ≠ 35 by omega)]
    obtain ⟨g2, b1, b2, b3⟩ := cM_readsConstant (L := L) a2 h1.1
    rw [b1, bnd]
    dsimp only
    by_cases h2 : numB V (skT V p + 1) 0 99 = true
    · have hnb := numB_i.mp h2
      rw [if_pos h2] at b2
      have hmg : mgB (-1 - numV V (skT V p + 1)) (W (10 + W 3 e) i) = true := by
        unfold mgB
        simp only [decide_eq_true_eq]
        left
        omega
      rw [if_pos h2, if_pos h2, if_neg (show ¬ (-1 - numV V (skT V p + 1)) = 0 by omega), cM_mayBeGiven b2.1 b2.2.2.1 ⟨by omega, by omega⟩ he0 he1 hi0 hi1, bnd]
      dsimp only
      rw [ifn, if_pos hmg, if_pos c96]
      exact hset g2 _ _ b2 b3 hmg
    · rw [if_neg h2, if_neg h2, if_pos rfl]
      exact hback g2 b3
  · have hne : (if skT V p < V 0 6 then V 5 (skT V p) else -201) ≠ 35 := by
      by_cases h2 : skT V p < V 0 6
      · rw [if_pos h2]
        exact fun h => h1 ⟨h2, h⟩
      · rw [if_neg h2]
        omega
    rw [if_neg h1, if_pos hne]
    obtain ⟨g2, b1, b2, b3, b4⟩ := cM_number (L := L) (lo := 0) (hi := 999) a2
    rw [skT_i] at b1 b3 b4
    rw [b1, bnd]
    dsimp only
    rw [ifz]
    by_cases h3 : numB V (skT V p) 0 999 = true
    · have hnb := numB_i.mp h3
      have hv := b4 h3
      rw [if_pos h3] at b3
      rw [if_pos h3]
      by_cases h4 : numV V (skT V p) = 0
      · rw [if_pos (show g2 137 26 = 0 by rw [hv]; exact h4), if_neg (fun h => by have := isRg_b h.2.1; omega)]
        exact hback g2 b2
      · rw [if_neg (show ¬ g2 137 26 = 0 by rw [hv]; exact h4), hv, cM_mayBeGiven b3.1 b3.2.2.1 ⟨by omega, by omega⟩ he0 he1 hi0 hi1, bnd]
        dsimp only
        rw [ifn]
        by_cases h5 : mgB (numV V (skT V p)) (W (10 + W 3 e) i) = true
        · have h6 := h5
          unfold mgB at h6
          simp only [decide_eq_true_eq] at h6
          rw [if_pos h5, if_pos c96, if_pos ⟨h3, by rcases h6 with h | h; omega; exact h⟩]
          exact hset g2 _ _ b3 b2 h5
        · rw [if_neg h5, if_neg (fun h => h5 (by unfold mgB; simp only [decide_eq_true_eq]; exact Or.inr h.2))]
          exact hback g2 b2
    · rw [if_neg h3, if_neg (fun h => h3 h.1)]
      exact hback g2 b2
end RDB
