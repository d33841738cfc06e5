/-! draw: the reference -/
section DRR
variable {L : Nat} {V g : AMem} {b e f i k m n p s x : Int}
theorem dpK_s (h : 0 ≤ i) : dpK V b x (i + 1).toNat = (npV (dpK V b x i.toNat).1 b (40 * i + wdT (xN (dpK V b x i.toNat).2)), xN (dpK V b x i.toNat).2) := by
  have e1 : (i + 1).toNat = i.toNat + 1 := by omega
  have e2 : ((i.toNat : Nat) : Int) = i := by omega
  rw [e1, dpK, e2]
theorem dbK_s (h : 0 ≤ i) : dbK V x n (i + 1).toNat = dpK (nbV (dbK V x n i.toNat).1) i (dbK V x n i.toNat).2 n.toNat := by
  have e1 : (i + 1).toNat = i.toNat + 1 := by omega
  have e2 : ((i.toNat : Nat) : Int) = i := by omega
  rw [e1, dbK, e2]
theorem daK_s (h : 0 ≤ i) : daK V e x (i + 1).toNat = (up (daK V e x i.toNat).1 (20 + e) i (arT (xN (daK V e x i.toNat).2) (V (10 + V 3 e) i)), xN (daK V e x i.toNat).2) := by
  have e1 : (i + 1).toNat = i.toNat + 1 := by omega
  have e2 : ((i.toNat : Nat) : Int) = i := by omega
  rw [e1, daK, e2]
theorem deK_s (h : 0 ≤ i) : deK V x n (i + 1).toNat = daK (deS (deK V x n i.toNat).1 (deK V x n i.toNat).2) i (xN (xN (xN (deK V x n i.toNat).2))) n.toNat := by
  have e1 : (i + 1).toNat = i.toNat + 1 := by omega
  have e2 : ((i.toNat : Nat) : Int) = i := by omega
  rw [e1, deK, e2]
theorem cM_draw67 (hV : VaV V) (hR : RfV V g) (hb0 : 0 ≤ b) (hb1 : b < V 0 0) (h1 : V 1 b = 0) (he : V 0 1 = 0) (hx : xR x) (hn0 : 0 ≤ n) (hn1 : n ≤ 6) {y : AVal} : ∃ z g', jM_draw_67 L s n m x b 0 y g = jM_draw_52 L s n m (dpK V b x n.toNat).2 (b + 1) (vI n) z g' ∧ RfV (dpK V b x n.toNat).1 g' ∧ Lo g g' := by
  have hb := hV.1
  refine lpx (F := fun i t => jM_draw_67 L s n m (dpK V b x i.toNat).2 b i t.1 t.2) (σ := AVal × AMem) (I := fun i t => RfV (dpK V b x i.toNat).1 t.2 ∧ Lo g t.2) (P := fun q => ∃ z g', q = jM_draw_52 L s n m (dpK V b x n.toNat).2 (b + 1) (vI n) z g' ∧ RfV (dpK V b x n.toNat).1 g' ∧ Lo g g') (n := n) ?_ ?_ 0 (y, g) (Int.le_refl _) hn0 ⟨hR, Lo_r⟩
  · intro i t h2 h3 hI ih
    obtain ⟨z, h⟩ := t
    have ih := fun z h => ih (z, h)
    rw [dpK_s h2] at ih
    dsimp only at hI ih ⊢
    obtain ⟨a1, a2, a3, a4, a5, a6⟩ := dpK_I hV hb0 hb1 h1 he hx (i := i.toNat) (by omega)
    have hx2 := xN_b (x := (dpK V b x i.toNat).2)
    have d1 := drw (d := 65536) (m := 3) hx2.1 hx2.2 (by omega) (by omega) (by omega)
    have key : ∀ z, ∃ z' g', ((jM_newParameter L b (40 * i + wdT (xN (dpK V b x i.toNat).2)) h).bind (fun q => jM_draw_67 L s n m (xN (dpK V b x i.toNat).2) b (i + 1) z q.2)) = jM_draw_52 L s n m (dpK V b x n.toNat).2 (b + 1) (vI n) z' g' ∧ RfV (dpK V b x n.toNat).1 g' ∧ Lo g g' := by
      intro z
      obtain ⟨g1, b1, b2, b3⟩ := cM_newParameter (L := L) (r := 40 * i + wdT (xN (dpK V b x i.toNat).2)) a1 hI.1 hb0 (by rw [a5]; exact hb1) (by rw [a3]; omega)
      rw [b1, bnd]
      exact ih z g1 ⟨b2, Lo_t hI.2 b3⟩
    rw [jM_draw_67_eq, if_neg (by omega), cM_next a2.1 a2.2, bnd]
    dsimp only
    rw [d1, iw_n (show 0 ≤ 40 * i by omega) (by omega), iw_n (show 0 ≤ i + 1 by omega) (by omega), iw_n (show 0 ≤ 40 * i + 1 by omega) (by omega), iw_n (show 0 ≤ 40 * i + 2 by omega) (by omega), iw_n (show 0 ≤ 40 * i + 4 by omega) (by omega)]
    unfold wdT at key
    by_cases c0 : xN (dpK V b x i.toNat).2 / 65536 % 3 = 0
    · rw [if_neg (show ¬ xN (dpK V b x i.toNat).2 / 65536 % 3 ≠ 0 by omega)]
      rw [if_pos c0] at key
      exact key _
    · rw [if_pos c0]
      rw [if_neg c0] at key
      by_cases c1 : xN (dpK V b x i.toNat).2 / 65536 % 3 = 1
      · rw [if_neg (show ¬ xN (dpK V b x i.toNat).2 / 65536 % 3 ≠ 1 by omega)]
        rw [if_pos c1] at key
        exact key _
      · rw [if_pos c1]
        rw [if_neg c1] at key
        exact key _
  · intro t hI
    refine ⟨t.1, t.2, ?_, hI⟩
    rw [jM_draw_67_eq, if_pos (Int.le_refl _), iw_n (by omega) (by omega)]
theorem cM_draw52 (hD : DI V 0 n) (hR : RfV V g) (hx : xR x) (hn0 : 0 ≤ n) (hn1 : n ≤ 6) : ∃ y z g', jM_draw_52 L s n m x 0 vU vU g = jM_draw_141 L s n m (dbK V x n 8).2 0 y z vU vU vU vU g' ∧ RfV (dbK V x n 8).1 g' ∧ Lo g g' := by
  refine lpx (F := fun i t => jM_draw_52 L s n m (dbK V x n i.toNat).2 i t.1 t.2.1 t.2.2) (σ := AVal × AVal × AMem) (I := fun i t => RfV (dbK V x n i.toNat).1 t.2.2 ∧ Lo g t.2.2) (P := fun q => ∃ y z g', q = jM_draw_141 L s n m (dbK V x n 8).2 0 y z vU vU vU vU g' ∧ RfV (dbK V x n 8).1 g' ∧ Lo g g') (n := 8) ?_ ?_ 0 (vU, vU, g) (Int.le_refl _) (by omega) ⟨hR, Lo_r⟩
  · intro i t h2 h3 hI ih
    obtain ⟨y, z, h⟩ := t
    have ih := fun y z h => ih (y, z, h)
    rw [dbK_s h2] at ih
    dsimp only at hI ih ⊢
    obtain ⟨hDb, hxb⟩ := dbK_I hD hx hn0 hn1 (b := i.toNat) (by omega)
    rw [show ((i.toNat : Nat) : Int) = i by omega] at hDb
    have hN := nb_I (c := 0) hDb (by omega)
    obtain ⟨g1, b1, b2, b3⟩ := cM_newBlock (L := L) hDb.1 hI.1 (by have := hDb.2.1; omega)
    obtain ⟨z', g2, c1, c2, c3⟩ := cM_draw67 (L := L) (s := s) (m := m) (b := i) (y := z) hN.1 b2 h2 (by rw [hN.2.1]; omega) hN.2.2.2.1 hN.2.2.1 hxb hn0 hn1
    rw [jM_draw_52_eq, if_neg (by omega), b1, bnd, c1]
    exact ih _ z' g2 ⟨c2, Lo_t hI.2 (Lo_t b3 c3)⟩
  · intro t hI
    refine ⟨t.1, t.2.1, t.2.2, ?_, hI⟩
    rw [jM_draw_52_eq, if_pos (by omega)]
    rfl
theorem cM_draw218 (hE : EI V (k + 1) n) (hR : RfV V g) (hk0 : 0 ≤ k) (hk1 : k < 16) (hx : xR x) (hn0 : 0 ≤ n) (hn1 : n ≤ 6) {y z : AVal} : ∃ a b c d y' z' g', jM_draw_218 L s n m x k f p k 0 y z g = jM_draw_141 L s n m (daK V k x n.toNat).2 (k + 1) a b c d y' z' g' ∧ RfV (daK V k x n.toNat).1 g' ∧ Lo g g' := by
  have hE2 := hE.1.2.2.2.2.2.1 k hk0 (by have := hE.2.2.1; omega)
  have hB := bOK_e hE.1 hk0 (by have := hE.2.2.1; omega)
  have hmn : V 1 (V 3 k) = n := hE.2.2.2 _ hE2.2.1.1 (by have := hE.2.1; omega)
  refine lpx (F := fun i t => jM_draw_218 L s n m (daK V k x i.toNat).2 k f p k i t.1 t.2.1 t.2.2) (σ := AVal × AVal × AMem) (I := fun i t => RfV (daK V k x i.toNat).1 t.2.2 ∧ Lo g t.2.2) (P := fun q => ∃ a b c d y' z' g', q = jM_draw_141 L s n m (daK V k x n.toNat).2 (k + 1) a b c d y' z' g' ∧ RfV (daK V k x n.toNat).1 g' ∧ Lo g g') (n := n) ?_ ?_ 0 (y, z, g) (Int.le_refl _) hn0 ⟨hR, Lo_r⟩
  · intro i t h2 h3 hI ih
    obtain ⟨y, z, h⟩ := t
    have ih := fun y z h => ih (y, z, h)
    rw [daK_s h2] at ih
    dsimp only at hI ih ⊢
    obtain ⟨a1, a2, a3⟩ := daK_I hE.1 hk0 (by have := hE.2.2.1; omega) hx (i := i.toNat) (by rw [hmn]; omega)
    have hx2 := xN_b (x := (daK V k x i.toNat).2)
    have d1 := drw (d := 65536) (m := 8) hx2.1 hx2.2 (by omega) (by omega) (by omega)
    have d2 := drw (d := 1024) (m := 100) hx2.1 hx2.2 (by omega) (by omega) (by omega)
    have e01 : (daK V k x i.toNat).1 0 1 = k + 1 := by rw [a3 _ _ (by omega)]; exact hE.2.2.1
    have e3 : (daK V k x i.toNat).1 3 k = V 3 k := a3 _ _ (by omega)
    have e1 : (daK V k x i.toNat).1 1 (V 3 k) = n := by rw [a3 _ _ (by omega)]; exact hmn
    have ep : (daK V k x i.toNat).1 (10 + V 3 k) i = V (10 + V 3 k) i := a3 _ _ (by have := hE.2.1; omega)
    have hr := isRg_b (hB.2.1 i h2 (by omega))
    have hup := fun w => RfV_up (w := w) a1 hI.1 hk0 (by rw [e01]; omega) h2 (show i < 6 by omega)
    have c96 : 0 ≤ 6 * k + i ∧ 6 * k + i < 96 := by omega
    rw [jM_draw_218_eq, if_neg (by omega), cM_next a2.1 a2.2, bnd]
    dsimp only
    rw [d1, d2, iw_n (show 0 ≤ 6 * k by omega) (by omega), iw_n (show 0 ≤ 6 * k + i by omega) (by omega), iw_n (show 0 ≤ i + 1 by omega) (by omega)]
    unfold arT at ih
    by_cases c7 : xN (daK V k x i.toNat).2 / 65536 % 8 = 7
    · rw [if_neg (show ¬ xN (daK V k x i.toNat).2 / 65536 % 8 ≠ 7 by omega), if_pos c96, iw_s (show -2147483648 ≤ -1 - xN (daK V k x i.toNat).2 / 1024 % 100 ∧ -1 - xN (daK V k x i.toNat).2 / 1024 % 100 < 2147483648 by omega)]
      rw [if_pos c7] at ih
      exact ih _ _ _ ⟨hup _, Lo_u hI.2 (by omega)⟩
    · rw [if_pos c7, cM_parameterOf a1 hI.1 hk0 (by rw [e01]; omega) h2 (by rw [e3, e1]; exact h3), bnd]
      dsimp only
      rw [e3, ep, cM_widthOf (by omega) (by omega), bnd]
      dsimp only
      rw [if_pos c96, iw_n (show 0 ≤ 40 * (xN (daK V k x i.toNat).2 / 65536 % 8) by omega) (by omega), iw_n (show 0 ≤ 40 * (xN (daK V k x i.toNat).2 / 65536 % 8) + V (10 + V 3 k) i % 10 by omega) (by omega)]
      rw [if_neg c7] at ih
      exact ih _ _ _ ⟨hup _, Lo_u hI.2 (by omega)⟩
  · intro t hI
    refine ⟨vI f, vI p, vI k, vI n, t.1, t.2.1, t.2.2, ?_, hI⟩
    rw [jM_draw_218_eq, if_pos (Int.le_refl _), iw_n (by omega) (by omega)]
theorem cM_draw141 (hE : EI V 0 n) (hR : RfV V g) (hx : xR x) (hn0 : 0 ≤ n) (hn1 : n ≤ 6) (hm0 : 0 ≤ m) (hm1 : m ≤ 16) {y z : AVal} : ∃ g', jM_draw_141 L s n m x 0 y z vU vU vU vU g = some (m, g') ∧ RfV (deK V x n m.toNat).1 g' ∧ Lo g g' := by
  refine lpx (F := fun i t => jM_draw_141 L s n m (deK V x n i.toNat).2 i t.1 t.2.1 t.2.2.1 t.2.2.2.1 t.2.2.2.2.1 t.2.2.2.2.2.1 t.2.2.2.2.2.2) (σ := AVal × AVal × AVal × AVal × AVal × AVal × AMem) (I := fun i t => RfV (deK V x n i.toNat).1 t.2.2.2.2.2.2 ∧ Lo g t.2.2.2.2.2.2) (P := fun q => ∃ g', q = some (m, g') ∧ RfV (deK V x n m.toNat).1 g' ∧ Lo g g') (n := m) ?_ ?_ 0 (y, z, vU, vU, vU, vU, g) (Int.le_refl _) hm0 ⟨hR, Lo_r⟩
  · intro i t h2 h3 hI ih
    obtain ⟨y, z, y1, z1, y2, z2, h⟩ := t
    have ih := fun y z y1 z1 y2 z2 h => ih (y, z, y1, z1, y2, z2, h)
    rw [deK_s h2] at ih
    dsimp only at hI ih ⊢
    obtain ⟨hEk, hxk⟩ := deK_I hE hx hn0 hn1 (k := i.toNat) (by omega)
    rw [show ((i.toNat : Nat) : Int) = i by omega] at hEk
    generalize deK V x n i.toNat = D at ih hI hEk hxk ⊢
    have x1 := xN_b (x := D.2)
    have x2 := xN_b (x := xN D.2)
    have x3 := xN_b (x := xN (xN D.2))
    have d1 := drw (d := 65536) (m := 8) x1.1 x1.2 (by omega) (by omega) (by omega)
    have d2 := drw (d := 65536) (m := 8) x2.1 x2.2 (by omega) (by omega) (by omega)
    have d3 := drw (d := 65536) (m := 100) x3.1 x3.2 (by omega) (by omega) (by omega)
    have h00 := hEk.2.1
    have h01 := hEk.2.2.1
    obtain ⟨g1, b1, b2, b3⟩ := cM_newEdge (L := L) (f := xN D.2 / 65536 % 8) (t := xN (xN D.2) / 65536 % 8) (w := xN (xN (xN D.2)) / 65536 % 100) hEk.1 hI.1 (by omega) (by omega) (by omega)
    rw [h01] at b1
    have hS := deS_I (x := D.2) hEk (by omega)
    obtain ⟨a, b, c, d, y', z', g2, c1, c2, c3⟩ := cM_draw218 (L := L) (s := s) (m := m) (f := xN D.2 / 65536 % 8) (p := xN (xN D.2) / 65536 % 8) (y := y2) (z := z2) hS b2 h2 (by omega) x3 hn0 hn1
    rw [jM_draw_141_eq, if_neg (by omega), cM_next hxk.1 hxk.2, bnd, cM_next x1.1 x1.2, bnd, cM_next x2.1 x2.2, bnd]
    dsimp only
    rw [d1, d2, d3, b1, bnd, c1]
    exact ih _ _ _ _ _ _ g2 ⟨c2, Lo_t hI.2 (Lo_t b3 c3)⟩
  · intro t hI
    refine ⟨t.2.2.2.2.2.2, ?_, hI⟩
    rw [jM_draw_141_eq, if_pos (Int.le_refl _)]
theorem cM_draw (hV : VaV V) (hR : RfV V g) : RO (oDraw V s n m) (jM_draw L s n m g) g := by
  rw [jM_draw_eq, cM_in, bnd]
  dsimp only
  rw [ifz, bns, cM_in, bnd]
  dsimp only
  rw [ifz, bns, cM_in, bnd]
  dsimp only
  rw [ifn, bns]
  unfold oDraw
  by_cases hs : 0 ≤ s ∧ s ≤ 999999
  · rw [if_pos hs, if_pos hs]
    by_cases hn : 0 ≤ n ∧ n ≤ 6
    · rw [if_pos hn, if_pos hn]
      by_cases hm : 0 ≤ m ∧ m ≤ 16
      · rw [if_pos hm, if_pos hm]
        have hx : xR s := ⟨hs.1, by omega⟩
        obtain ⟨g0, a1, a2, a3⟩ := cM_anew (L := L) hR
        rw [jM_anew_eq] at a1
        have a1' := (Prod.mk.inj (Option.some.inj a1)).2
        rw [← a1'] at a2 a3
        obtain ⟨y, z, g1, b1, b2, b3⟩ := cM_draw52 (L := L) (s := s) (m := m) (an_D hV) a2 hx hn.1 hn.2
        have hE := dr_E hV hx hn.1 hn.2
        obtain ⟨g2, c1, c2, c3⟩ := cM_draw141 (L := L) (s := s) (y := y) (z := z) hE.1 b2 hE.2 hn.1 hn.2 hm.1 hm.2
        rw [b1, c1]
        exact ⟨g2, rfl, c2, Lo_t a3 (Lo_t b3 c3)⟩
      · rw [if_neg hm, if_neg hm]
        exact RO_B hR
    · rw [if_neg hn, if_neg hn]
      exact RO_B hR
  · rw [if_neg hs, if_neg hs]
    exact RO_B hR
end DRR
