/-! the class: draw -/
section DRC
variable {L : Nat} {V g h : AMem} {b e f i k m n p s t w x : Int}
theorem dp_2 (hb0 : 0 ≤ b) : ∀ {i : Nat}, (∀ k, 2 ≤ k → (dpK V b x i).1 0 k = V 0 k) ∧ ∀ k, (dpK V b x i).1 5 k = V 5 k
  | 0 => ⟨fun _ _ => rfl, fun _ => rfl⟩
  | i + 1 => by
    have ih := dp_2 hb0 (i := i)
    rw [dpK]
    dsimp only
    exact ⟨fun k hk => by rw [np_b (by omega) (by omega) (by omega)]; exact ih.1 k hk, fun k => by rw [np_b (by omega) (by omega) (by omega)]; exact ih.2 k⟩
theorem ClV_d (hV : VaV V) (hC : ClV V t g) : ClV V t (up g 135 0 x) := ClV_k hV hC (fun a k _ _ => up_n (by omega))
theorem shf (h : x = 0 ∨ x = 1 ∨ x = 2) : (Int32.ofInt 4 >>> (Int32.ofInt x &&& 31)).toInt = if x = 0 then 4 else if x = 1 then 2 else 1 := by
  rcases h with h | h | h <;> subst h <;> decide
theorem cX_drawBlock (hD : DI V b n) (hC : ClV V t g) (hb0 : 0 ≤ b) (hb1 : b < 8) (hx : xR x) (hg : g 135 0 = x) (hn0 : 0 ≤ n) (hn1 : n ≤ 6) : ∃ g', jX_drawBlock L n g = some g' ∧ ClV (dpK (nbV V) b x n.toNat).1 t g' ∧ g' 135 0 = (dpK (nbV V) b x n.toNat).2 ∧ Hi g g' := by
  have hN := nb_I (c := 0) hD (by omega)
  have ht := hC.1
  have hk3 : kin (SH L) (g 2 0) = 3 := by rw [hC.2.1.1]; exact kG' ht
  obtain ⟨g1, a1, a2, a3⟩ := cG_addBlock (L := L) hD.1 ht hC.2.2.1 (by have := hD.2.1; omega)
  have hC1 : ClV (nbV V) t g1 := ClV_g hC a3 a2 (fun k hk => nb_n (by omega) (by omega)) (fun i => nb_n (by omega) (by omega))
  have hH1 := Gt_hi ht a3
  have hx1 : g1 135 0 = x := by rw [a3 _ _ (by omega)]; exact hg
  rw [jX_drawBlock_eq, if_pos hk3, hC.2.1.1, a1, bnd, hD.2.1]
  refine lpx (F := fun i s => jX_drawBlock_10 L n b i s.1 s.2) (σ := AVal × AMem) (I := fun i s => ClV (dpK (nbV V) b x i.toNat).1 t s.2 ∧ s.2 135 0 = (dpK (nbV V) b x i.toNat).2 ∧ Hi g s.2) (P := fun o => ∃ g', o = some g' ∧ ClV (dpK (nbV V) b x n.toNat).1 t g' ∧ g' 135 0 = (dpK (nbV V) b x n.toNat).2 ∧ Hi g g') (n := n) ?_ ?_ 0 (vU, g1) (Int.le_refl _) hn0 ⟨hC1, hx1, hH1⟩
  · intro i s' h2 h3 hI ih
    obtain ⟨y, h⟩ := s'
    have ih := fun y h => ih (y, h)
    rw [dpK_s h2] at ih
    dsimp only at hI ih ⊢
    obtain ⟨d1, d2, d3, d4, d5, d6⟩ := dpK_I (V := nbV V) hN.1 hb0 (by rw [hN.2.1]; omega) hN.2.2.2.1 hN.2.2.1 hx (i := i.toNat) (by omega)
    have hx2 := xN_b (x := (dpK (nbV V) b x i.toNat).2)
    have hCu := ClV_d (x := xN (dpK (nbV V) b x i.toNat).2) d1 hI.1
    have hku : kin (SH L) (up h 135 0 (xN (dpK (nbV V) b x i.toNat).2) 2 0) = 3 := by rw [hCu.2.1.1]; exact kG' ht
    obtain ⟨g2, b1, b2, b3⟩ := cG_addParameter (L := L) (r := 40 * i + wdT (xN (dpK (nbV V) b x i.toNat).2)) d1 ht hCu.2.2.1 hb0 (by rw [d5, hN.2.1]; omega) (by rw [d3]; omega)
    have hsh : (Int32.ofInt 4 >>> (Int32.ofInt (xN (dpK (nbV V) b x i.toNat).2 / 65536 % 3) &&& 31)).toInt = wdT (xN (dpK (nbV V) b x i.toNat).2) := by
      rw [shf (by omega)]
      rfl
    have hw := wdT_b (x := xN (dpK (nbV V) b x i.toNat).2)
    rw [jX_drawBlock_10_eq, if_neg (by omega), cDi_next hI.2.1 d2.1 d2.2 (by omega) (by omega), bnd]
    dsimp only
    rw [if_pos hku, hsh, jRg_asTold_eq, bnd, iw_n (show 0 ≤ 4 * i by omega) (by omega), iw_n (show 0 ≤ 10 * (4 * i) by omega) (by omega), show 10 * (4 * i) = 40 * i by omega, iw_n (by omega) (by omega), hCu.2.1.1]
    dsimp only
    rw [b1, bnd, iw_n (by omega) (by omega)]
    refine ih _ g2 ⟨ClV_g hCu b3 b2 (fun k hk => np_b (by omega) (by omega) (by omega)) (fun i => np_b (by omega) (by omega) (by omega)), by rw [b3 _ _ (by omega), up_s], Hi_t hI.2.2 (Hi_t (Hi_u Hi_r (by omega)) (Gt_hi ht b3))⟩
  · intro s' hI
    refine ⟨s'.2, ?_, hI⟩
    rw [jX_drawBlock_10_eq, if_pos (Int.le_refl _)]
theorem cX_edge64 (hE : EI V (k + 1) n) (hC : ClV V t g) (hk0 : 0 ≤ k) (hk1 : k < 16) (hx : xR x) (hg : g 135 0 = x) (hn0 : 0 ≤ n) (hn1 : n ≤ 6) : ∃ g', jX_drawEdge_64 L f p k (t + 2 + 2 * V 3 k) 0 vU g = some g' ∧ ClV (daK V k x n.toNat).1 t g' ∧ g' 135 0 = (daK V k x n.toNat).2 ∧ Hi g g' := by
  have hE2 := hE.1.2.2.2.2.2.1 k hk0 (by have := hE.2.2.1; omega)
  have hB := bOK_e hE.1 hk0 (by have := hE.2.2.1; omega)
  have hmn : V 1 (V 3 k) = n := hE.2.2.2 _ hE2.2.1.1 (by have := hE.2.1; omega)
  have ht := hC.1
  have h8 := hE.2.1
  have kb : kin (SH L) (t + 2 + 2 * V 3 k) = 0 := (kG_b (kG' ht) (by omega) (by omega)).2
  refine lpx (F := fun i s => jX_drawEdge_64 L f p k (t + 2 + 2 * V 3 k) i s.1 s.2) (σ := AVal × AMem) (I := fun i s => ClV (daK V k x i.toNat).1 t s.2 ∧ s.2 135 0 = (daK V k x i.toNat).2 ∧ Hi g s.2) (P := fun o => ∃ g', o = some g' ∧ ClV (daK V k x n.toNat).1 t g' ∧ g' 135 0 = (daK V k x n.toNat).2 ∧ Hi g g') (n := n) ?_ ?_ 0 (vU, g) (Int.le_refl _) hn0 ⟨hC, hg, Hi_r⟩
  · intro i s' h2 h3 hI ih
    obtain ⟨y, h⟩ := s'
    have ih := fun y h => ih (y, h)
    rw [daK_s h2] at ih
    dsimp only at hI ih ⊢
    obtain ⟨d1, d2, d3⟩ := daK_I hE.1 hk0 (by have := hE.2.2.1; omega) hx (i := i.toNat) (by rw [hmn]; omega)
    have hx2 := xN_b (x := (daK V k x i.toNat).2)
    have hCu := ClV_d (x := xN (daK V k x i.toNat).2) d1 hI.1
    have hku : kin (SH L) (up h 135 0 (xN (daK V k x i.toNat).2) 2 0) = 3 := by rw [hCu.2.1.1]; exact kG' ht
    have e01 : (daK V k x i.toNat).1 0 1 = k + 1 := by rw [d3 _ _ (by omega)]; exact hE.2.2.1
    have e3 : (daK V k x i.toNat).1 3 k = V 3 k := d3 _ _ (by omega)
    have e1 : (daK V k x i.toNat).1 1 (V 3 k) = n := by rw [d3 _ _ (by omega)]; exact hmn
    have ep : (daK V k x i.toNat).1 (10 + V 3 k) i = V (10 + V 3 k) i := d3 _ _ (by omega)
    have hgB := hI.1.2.2.1.2.1 (V 3 k) hE2.2.1.1 (by rw [d3 _ _ (by omega)]; exact hE2.2.1.2)
    have hr := isRg_b (hB.2.1 i h2 (by omega))
    have c16 : 0 ≤ k ∧ k < 16 := ⟨hk0, hk1⟩
    have c6 : 0 ≤ i ∧ i < 6 := by omega
    have hset : ∀ v, ClV (up (daK V k x i.toNat).1 (20 + k) i v) t (up (up h 135 0 (xN (daK V k x i.toNat).2)) (t + 23 + 2 * k + 1) i v) := fun v => ClV_g hCu (Gt_u Gt_r (by omega)) (GrV_up d1 hCu.2.2.1 hk0 (by rw [e01]; omega)) (fun j hj => up_n (by omega)) (fun j => up_n (by omega))
    have hhi : ∀ v, Hi g (up (up h 135 0 (xN (daK V k x i.toNat).2)) (t + 23 + 2 * k + 1) i v) := fun v => Hi_t hI.2.2 (Hi_u (Hi_u Hi_r (by omega)) (by omega))
    have h135 : ∀ v, up (up h 135 0 (xN (daK V k x i.toNat).2)) (t + 23 + 2 * k + 1) i v 135 0 = xN (daK V k x i.toNat).2 := fun v => by rw [up_n (by omega), up_s]
    have hpar : up h 135 0 (xN (daK V k x i.toNat).2) (t + 2 + 2 * V 3 k + 1) i = V (10 + V 3 k) i := by rw [up_n (by omega), hgB.2 i h2 (by rw [e1]; exact h3), ep]
    rw [jX_drawEdge_64_eq L f p k _ i y h kb, hgB.1, e1, if_neg (by omega), cDi_next hI.2.1 d2.1 d2.2 (by omega) (by omega), bnd]
    dsimp only
    rw [if_pos hku, if_pos c16, if_pos c6, hCu.2.1.1, hpar, up_s, drw hx2.1 hx2.2 (by omega) (by omega) (by omega), iw_n (show 0 ≤ i + 1 by omega) (by omega)]
    unfold arT at ih
    by_cases c7 : xN (daK V k x i.toNat).2 / 65536 % 8 = 7
    · rw [if_neg (show ¬ xN (daK V k x i.toNat).2 / 65536 % 8 ≠ 7 by omega), jRg_toldConstant_eq, bnd, iw_s (show -2147483648 ≤ -1 - xN (daK V k x i.toNat).2 / 1024 % 100 ∧ -1 - xN (daK V k x i.toNat).2 / 1024 % 100 < 2147483648 by omega)]
      dsimp only
      rw [if_pos c6]
      rw [if_pos c7] at ih
      exact ih _ _ ⟨hset _, h135 _, hhi _⟩
    · rw [if_pos c7, cRg_width (by omega) (by omega), bnd, iw_n (show 0 ≤ 4 * (xN (daK V k x i.toNat).2 / 65536 % 8) by omega) (by omega), jRg_asTold_eq, bnd]
      dsimp only
      rw [if_pos c6, iw_n (show 0 ≤ 10 * (4 * (xN (daK V k x i.toNat).2 / 65536 % 8)) by omega) (by omega), show 10 * (4 * (xN (daK V k x i.toNat).2 / 65536 % 8)) = 40 * (xN (daK V k x i.toNat).2 / 65536 % 8) by omega, iw_n (show 0 ≤ 40 * (xN (daK V k x i.toNat).2 / 65536 % 8) + V (10 + V 3 k) i % 10 by omega) (by omega)]
      rw [if_neg c7] at ih
      exact ih _ _ ⟨hset _, h135 _, hhi _⟩
  · intro s' hI
    refine ⟨s'.2, ?_, hI⟩
    obtain ⟨d1, d2, d3⟩ := daK_I hE.1 hk0 (by have := hE.2.2.1; omega) hx (i := n.toNat) (by rw [hmn]; omega)
    have hgB := hI.1.2.2.1.2.1 (V 3 k) hE2.2.1.1 (by rw [d3 _ _ (by omega)]; exact hE2.2.1.2)
    rw [jX_drawEdge_64_eq L f p k _ n s'.1 s'.2 kb, hgB.1, d3 _ _ (by omega), hmn, if_pos (Int.le_refl _)]
theorem cX_drawEdge (hE : EI V k n) (hC : ClV V t g) (hk0 : 0 ≤ k) (hk1 : k < 16) (hx : xR x) (hg : g 135 0 = x) (hn0 : 0 ≤ n) (hn1 : n ≤ 6) : ∃ g', jX_drawEdge L g = some g' ∧ ClV (daK (deS V x) k (xN (xN (xN x))) n.toNat).1 t g' ∧ g' 135 0 = (daK (deS V x) k (xN (xN (xN x))) n.toNat).2 ∧ Hi g g' := by
  have ht := hC.1
  have x1 := xN_b (x := x)
  have x2 := xN_b (x := xN x)
  have x3 := xN_b (x := xN (xN x))
  have h00 := hE.2.1
  have h01 := hE.2.2.1
  obtain ⟨G, hG⟩ : ∃ G, G = up (up (up g 135 0 (xN x)) 135 0 (xN (xN x))) 135 0 (xN (xN (xN x))) := ⟨_, rfl⟩
  have hC3 : ClV V t G := by
    rw [hG]
    exact ClV_d hE.1 (ClV_d hE.1 (ClV_d hE.1 hC))
  have hHG : Hi g G := by
    rw [hG]
    exact Hi_u (Hi_u (Hi_u Hi_r (by omega)) (by omega)) (by omega)
  have e20 : up (up g 135 0 (xN x)) 135 0 (xN (xN x)) 2 0 = t := by rw [up_n (by omega), up_n (by omega)]; exact hC.2.1.1
  have hG20 : G 2 0 = t := hC3.2.1.1
  obtain ⟨g1, a1, a2, a3⟩ := cG_addEdge (L := L) (f := xN x / 65536 % 8) (p := xN (xN x) / 65536 % 8) (w := xN (xN (xN x)) / 65536 % 100) hE.1 ht hC3.2.2.1 (by omega) (by omega) (by omega) (by omega) (by omega)
  have hS := deS_I (x := x) hE hk1
  have h3 := deS_3 (x := x) hE
  have hC4 : ClV (deS V x) t g1 := ClV_g hC3 a3 a2 (fun k hk => ne_n (by omega) (by omega) (by omega)) (fun i => ne_n (by omega) (by omega) (by omega))
  have g135 : g1 135 0 = xN (xN (xN x)) := by rw [a3 _ _ (by omega), hG, up_s]
  obtain ⟨g2, b1, b2, b3, b4⟩ := cX_edge64 (L := L) (f := xN x / 65536 % 8) (p := xN (xN x) / 65536 % 8) hS hC4 hk0 hk1 x3 g135 hn0 hn1
  refine ⟨g2, ?_, b2, b3, Hi_t hHG (Hi_t (Gt_hi ht a3) b4)⟩
  have hgE := hC4.2.2.1.2.2 k hk0 (by rw [hS.2.2.1]; omega)
  have c16 : 0 ≤ k ∧ k < 16 := ⟨hk0, hk1⟩
  have c10 : 0 ≤ deS V x 3 k ∧ deS V x 3 k < 10 := by rw [h3]; omega
  rw [jX_drawEdge_eq, cDi_next hg hx.1 hx.2 (by omega) (by omega), bnd, cDi_next up_s x1.1 x1.2 (by omega) (by omega), bnd]
  dsimp only
  rw [if_pos (show kin (SH L) (up (up g 135 0 (xN x)) 135 0 (xN (xN x)) 2 0) = 3 by rw [e20]; exact kG' ht), cDi_next up_s x2.1 x2.2 (by omega) (by omega), bnd]
  dsimp only
  rw [← hG, e20, a1, bnd, h01]
  dsimp only
  have hk1 : kin (SH L) (g1 2 0) = 3 := by rw [hC4.2.1.1]; exact kG' ht
  rw [if_pos hk1, hC4.2.1.1, cG_hasEdge ht hC4.2.2.1, bnd]
  dsimp only
  rw [ifn, if_pos ⟨hk0, by rw [hS.2.2.1]; omega⟩, if_pos hk1, if_pos c16]
  simp only [hC4.2.1.1, hgE.2.1]
  rw [if_pos c10]
  exact b1
theorem cX_draw (hV : VaV V) (hC : ClV V t g) : CO (oDraw V s n m) (jX_draw L s n m g) g := by
  have ht := hC.1
  have hk3 : kin (SH L) (g 2 0) = 3 := by rw [hC.2.1.1]; exact kG' ht
  rw [jX_draw_eq, cX_isBelow, bnd]
  dsimp only
  rw [ifz, cX_isBelow, bnd]
  dsimp only
  rw [ifz, cX_isBelow, bnd]
  dsimp only
  rw [ifn]
  simp only [bns]
  unfold oDraw
  by_cases hs : 0 ≤ s ∧ s ≤ 999999
  · rw [if_pos (show 0 ≤ s ∧ s < 1000000 by omega), if_pos hs]
    by_cases hn : 0 ≤ n ∧ n ≤ 6
    · rw [if_pos (show 0 ≤ n ∧ n < 7 by omega), if_pos hn]
      by_cases hm : 0 ≤ m ∧ m ≤ 16
      · rw [if_pos (show 0 ≤ m ∧ m < 17 by omega), if_pos hm, if_pos hk3, hC.2.1.1]
        have hx : xR s := ⟨hs.1, by omega⟩
        obtain ⟨g1, a1, a2, a3⟩ := cG_removeAll (L := L) (V := V) (g := g) ht
        have hC1 : ClV (oAnew V).2 t g1 := ClV_g hC a3 a2 (fun k hk => an_2 hk) (fun i => an_5)
        have hC2 := ClV_d (x := s) (oAnew_V hV) hC1
        have hD := an_D (n := n) hV
        have hE := dr_E (s := s) hV hx hn.1 hn.2
        rw [a1, bnd, jDi_start_eq, bnd]
        have s1 : ∃ g', jX_draw_53 L s n m 0 (up g1 135 0 s) = jX_draw_74 L s n m 0 g' ∧ ClV (dbK (oAnew V).2 s n 8).1 t g' ∧ g' 135 0 = (dbK (oAnew V).2 s n 8).2 ∧ Hi g g' := by
          refine lpx (F := fun i h => jX_draw_53 L s n m i h) (I := fun i h => ClV (dbK (oAnew V).2 s n i.toNat).1 t h ∧ h 135 0 = (dbK (oAnew V).2 s n i.toNat).2 ∧ Hi g h) (P := fun o => ∃ g', o = jX_draw_74 L s n m 0 g' ∧ ClV (dbK (oAnew V).2 s n 8).1 t g' ∧ g' 135 0 = (dbK (oAnew V).2 s n 8).2 ∧ Hi g g') (n := 8) ?_ ?_ 0 _ (Int.le_refl _) (by omega) ⟨hC2, up_s, Hi_t (Gt_hi ht a3) (Hi_u Hi_r (by omega))⟩
          · intro i h h2 h3 hI ih
            rw [dbK_s h2] at ih
            obtain ⟨hDb, hxb⟩ := dbK_I hD hx hn.1 hn.2 (b := i.toNat) (by omega)
            rw [show ((i.toNat : Nat) : Int) = i by omega] at hDb
            obtain ⟨g2, b1, b2, b3, b4⟩ := cX_drawBlock (L := L) hDb hI.1 h2 h3 hxb hI.2.1 hn.1 hn.2
            rw [jX_draw_53_eq, if_neg (by omega), b1, bnd, iw_n (by omega) (by omega)]
            exact ih g2 ⟨b2, b3, Hi_t hI.2.2 b4⟩
          · intro h hI
            refine ⟨h, ?_, hI⟩
            rw [jX_draw_53_eq, if_pos (by omega)]
        obtain ⟨g2, b1, b2, b3, b4⟩ := s1
        rw [b1]
        unfold drV
        refine lpx (F := fun i h => jX_draw_74 L s n m i h) (I := fun i h => ClV (deK (dbK (oAnew V).2 s n 8).1 (dbK (oAnew V).2 s n 8).2 n i.toNat).1 t h ∧ h 135 0 = (deK (dbK (oAnew V).2 s n 8).1 (dbK (oAnew V).2 s n 8).2 n i.toNat).2 ∧ Hi g h) (P := fun o => CO (m, (deK (dbK (oAnew V).2 s n 8).1 (dbK (oAnew V).2 s n 8).2 n m.toNat).1) o g) (n := m) ?_ ?_ 0 g2 (Int.le_refl _) hm.1 ⟨b2, b3, b4⟩
        · intro i h h2 h3 hI ih
          rw [deK_s h2] at ih
          obtain ⟨hEk, hxk⟩ := deK_I hE.1 hE.2 hn.1 hn.2 (k := i.toNat) (by omega)
          rw [show ((i.toNat : Nat) : Int) = i by omega] at hEk
          obtain ⟨g3, c1, c2, c3, c4⟩ := cX_drawEdge (L := L) hEk hI.1 h2 (by omega) hxk hI.2.1 hn.1 hn.2
          rw [jX_draw_74_eq, if_neg (by omega), c1, bnd, iw_n (by omega) (by omega)]
          exact ih g3 ⟨c2, c3, Hi_t hI.2.2 c4⟩
        · intro h hI
          rw [jX_draw_74_eq, if_pos (Int.le_refl _)]
          exact ⟨h, t, rfl, hI.1, hI.2.2⟩
      · rw [if_neg (show ¬ (0 ≤ m ∧ m < 17) by omega), if_neg hm]
        exact CO_B hV hC
    · rw [if_neg (show ¬ (0 ≤ n ∧ n < 7) by omega), if_neg hn]
      exact CO_B hV hC
  · rw [if_neg (show ¬ (0 ≤ s ∧ s < 1000000) by omega), if_neg hs]
    exact CO_B hV hC
end DRC
