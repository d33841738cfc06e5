/-! the reference reads: edges, all -/
section RDE
variable {L : Nat} {V W g h : AMem} {a b c e f hi i j lo n p q t w x : Int}
theorem pEnd_s : pEnd V W (skT V p) = pEnd V W p := by
  unfold pEnd
  rw [skT_i]
theorem cM_rde127 (he0 : 0 ≤ e) : ∀ (k : Nat) (W g : AMem) (i p : Int), Rd V W p g → e < W 0 1 → 0 ≤ i → i + k = W 1 (W 3 e) → RM V (pArg V e k W i p) (jM_readsEdge_127 L f t e i g) g
  | 0, W, g, i, p, hR, he1, hi, hk => by
    rw [jM_readsEdge_127_eq, cM_manyOf hR.1 hR.2.2.1 he0 he1, bnd]
    dsimp only
    rw [if_pos (by omega), pArg]
    exact RM_e (cM_ends hR)
  | k + 1, W, g, i, p, hR, he1, hi, hk => by
    have hn := edg_n hR.1 he0 he1
    obtain ⟨g1, a1, a2, a3⟩ := cM_readsGiven (L := L) hR he0 he1 hi (by omega)
    have hu := (pGiv_I (e := e) (i := i) hR.1 hR.2.1 hR.2.2.2.2.2 he0 hi).2
    rw [jM_readsEdge_127_eq, cM_manyOf hR.1 hR.2.2.1 he0 he1, bnd]
    dsimp only
    rw [if_neg (by omega), a1, bnd, pArg]
    dsimp only
    rw [ifn, iw_n (by omega) (by omega)]
    by_cases h1 : (pGiv V W e i p).1 = true
    · rw [if_pos h1, if_pos h1]
      exact RM_t a3 (cM_rde127 he0 k _ g1 (i + 1) _ a2 (by rw [hu _ _ (by omega)]; exact he1) (by omega) (by rw [hu 3 _ (by omega), hu 1 _ (by omega)]; omega))
    · rw [if_neg h1, if_neg h1]
      have hw : (pGiv V W e i p).2.2 = W := by
        revert h1
        unfold pGiv
        repeat' split
        all_goals simp
      rw [hw] at a2
      exact RM_t a3 (RM_f a2)
theorem cM_ed4 (hR : Rd V W p g) (he0 : 0 ≤ e) (he1 : e < W 0 1) : RM V (pEd4 V W e p) ((jM_skip L g).bind (fun q9 => (jM_here L q9).bind (fun q10 => if q10.1 = 58 then ((jM_manyOf L e q10.2).bind (fun q12 => if q12.1 ≠ 0 then (jM_readsEdge_127 L f t e 0 (up q12.2 137 25 (iw ((q12.2 137 25) + 1)))) else (some (0, q12.2)))) else ((jM_ends L q10.2).bind (fun q14 => if q14.1 = 0 ∨ q14.1 = 1 then some (q14.1, q14.2) else none))))) g := by
  obtain ⟨g1, a1, a2, a3⟩ := cM_skip (L := L) hR
  have hb := Rd_b hR
  have hs := skT_b (V := V) hR.2.2.2.2.2
  have hq0 := a2.2.2.2.2.1
  have hn := edg_n hR.1 he0 he1
  rw [a1, bnd, cM_here a2, bnd]
  dsimp only
  unfold pEd4
  by_cases h1 : skT V p < V 0 6 ∧ V 5 (skT V p) = 58
  · have h2 : (if skT V p < V 0 6 then V 5 (skT V p) else -201) = 58 := by rw [if_pos h1.1]; exact h1.2
    rw [if_pos h1, if_pos h2, cM_manyOf a2.1 a2.2.2.1 he0 he1, bnd]
    dsimp only
    by_cases h3 : W 1 (W 3 e) = 0
    · rw [if_pos h3, if_neg (show ¬ W 1 (W 3 e) ≠ 0 by omega)]
      exact RM_t (Lr_p a3) (RM_f a2)
    · rw [if_neg h3, if_pos h3, a2.2.2.2.1, iw_n (by omega) (by omega)]
      have hR2 : Rd V W (skT V p + 1) (up g1 137 25 (skT V p + 1)) := Rd_k a2 (Pk_u Pk_r (Or.inl rfl)) up_s (by omega) (by omega)
      exact RM_t (Lr_t (Lr_p a3) (Lr_p (Pk_u Pk_r (Or.inl rfl)))) (cM_rde127 he0 _ W _ 0 _ hR2 he1 (by omega) (by omega))
  · have h2 : ¬ (if skT V p < V 0 6 then V 5 (skT V p) else -201) = 58 := by
      by_cases h2 : skT V p < V 0 6
      · rw [if_pos h2]
        exact fun h => h1 ⟨h2, h⟩
      · rw [if_neg h2]
        omega
    rw [if_neg h1, if_neg h2, ← pEnd_s]
    exact RM_t (Lr_p a3) (RM_e (cM_ends a2))
theorem cM_readsEdge (hR : Rd V W p g) (hp : p < V 0 6) : RM V (pEdg V W p) (jM_readsEdge L g) g := by
  have h0 := hR.1.1
  have h1 := hR.1.2.1
  have hb := Rd_b hR
  have hp0 := hR.2.2.2.2.1
  rw [jM_readsEdge_eq, hR.2.2.1.1.2.1]
  unfold pEdg
  by_cases q : W 0 1 = 16
  · rw [if_pos q, if_neg (by omega)]
    exact RM_f hR
  rw [if_neg q, if_pos q, hR.2.2.2.1, iw_n (show 0 ≤ p + 1 by omega) (by omega), up_n (by omega), hR.2.2.1.1.1, iw_s (by omega)]
  have hR1 : Rd V W (p + 1) (up g 137 25 (p + 1)) := Rd_k hR (Pk_u Pk_r (Or.inl rfl)) up_s (by omega) (by omega)
  have hl1 : Lr g (up g 137 25 (p + 1)) := Lr_p (Pk_u Pk_r (Or.inl rfl))
  obtain ⟨g1, a1, a2, a3, a4⟩ := cM_number (L := L) (lo := 0) (hi := W 0 0 - 1) hR1
  rw [a1, bnd]
  dsimp only
  rw [ifn]
  unfold pEd1
  by_cases c1 : numB V (skT V (p + 1)) 0 (W 0 0 - 1) = true
  · have n1 := numB_i.mp c1
    rw [if_pos c1] at a3
    rw [if_pos c1, if_pos c1, a3.2.2.1.1.1, iw_s (by omega), a4 c1]
    obtain ⟨g2, b1, b2, b3, b4⟩ := cM_number (L := L) (lo := 0) (hi := W 0 0 - 1) a3
    rw [b1, bnd]
    dsimp only
    rw [ifn]
    unfold pEd2
    by_cases c2 : numB V (skT V (skT V (p + 1) + fgT V (skT V (p + 1)))) 0 (W 0 0 - 1) = true
    · have n2 := numB_i.mp c2
      rw [if_pos c2] at b3
      rw [if_pos c2, if_pos c2, b4 c2]
      obtain ⟨g3, d1, d2, d3, d4⟩ := cM_number (L := L) (lo := 0) (hi := 99) b3
      rw [d1, bnd]
      dsimp only
      rw [ifn]
      unfold pEd3
      generalize numV V (skT V (p + 1)) = f1 at n1 ⊢
      generalize skT V (p + 1) + fgT V (skT V (p + 1)) = p1 at a3 b1 b3 b4 c2 n2 d1 d3 d4 ⊢
      generalize numV V (skT V p1) = t1 at n2 ⊢
      generalize skT V p1 + fgT V (skT V p1) = p2 at b3 d1 d3 d4 ⊢
      by_cases c3 : numB V (skT V p2) 0 99 = true
      · have n3 := numB_i.mp c3
        rw [if_pos c3] at d3
        rw [if_pos c3, if_pos c3, d4 c3]
        obtain ⟨g4, e1, e2, e3⟩ := cM_newEdge (L := L) (f := f1) (t := t1) (w := numV V (skT V p2)) d3.1 d3.2.2.1 (by omega) (by omega) (by omega)
        rw [e1, bnd]
        have hR4 : Rd V (neV W f1 t1 (numV V (skT V p2))) (skT V p2 + fgT V (skT V p2)) g4 := ⟨VaV_ne d3.1 (by omega) (by omega) (by omega) (by omega) (by omega) (by omega) (by omega), TX_ne d3.2.1 h1.1, e2, by rw [e3 _ _ (by omega)]; exact d3.2.2.2.1, d3.2.2.2.2⟩
        exact RM_t (Lr_t hl1 (Lr_t (Lr_p a2) (Lr_t (Lr_p b2) (Lr_t (Lr_p d2) (Lr_l e3))))) (cM_ed4 hR4 h1.1 (by rw [ne_0 h1.1]; omega))
      · rw [if_neg c3] at d3
        rw [if_neg c3, if_neg c3]
        exact RM_t (Lr_t hl1 (Lr_t (Lr_p a2) (Lr_t (Lr_p b2) (Lr_p d2)))) (RM_f d3)
    · rw [if_neg c2] at b3
      rw [if_neg c2, if_neg c2]
      exact RM_t (Lr_t hl1 (Lr_t (Lr_p a2) (Lr_p b2))) (RM_f b3)
  · rw [if_neg c1] at a3
    rw [if_neg c1, if_neg c1]
    exact RM_t (Lr_t hl1 (Lr_p a2)) (RM_f a3)
theorem cM_rda21 : ∀ (k : Nat) (W g : AMem) (p c : Int), Rd V W (skT V p) g → p ≤ V 0 6 → 0 ≤ c → c + k ≤ 1000 → V 0 6 < p + k → ∃ g' q, jM_readsAll_21 L c g = some (if 0 < (pIte V k W p c).1 then (pIte V k W p c).1 else -201, g') ∧ Rd V (pIte V k W p c).2 q g' ∧ ((pIte V k W p c).1 ≤ 0 → (pIte V k W p c).1 = -300 - q) ∧ Lr g g'
  | 0, W, g, p, c, hR, hp, hc, hc2, hk => by omega
  | k + 1, W, g, p, c, hR, hp, hc, hc2, hk => by
    have hb := Rd_b hR
    have hs := skT_b (V := V) hp
    have hq0 := hR.2.2.2.2.1
    rw [jM_readsAll_21_eq, hb.2.1, hR.2.2.2.1, pIte]
    by_cases h1 : V 0 6 ≤ skT V p
    · rw [if_pos h1, if_pos h1]
      by_cases h2 : c = 0
      · rw [if_neg (by omega), if_pos h2]
        dsimp only
        rw [if_neg (by omega)]
        exact ⟨g, skT V p, rfl, hR, fun _ => rfl, fun _ _ _ => rfl⟩
      · rw [if_pos h2, if_neg h2]
        dsimp only
        rw [if_pos (by omega)]
        exact ⟨g, skT V p, rfl, hR, fun h => by omega, fun _ _ _ => rfl⟩
    · rw [if_neg h1, if_neg h1, cM_here hR, bnd]
      dsimp only
      rw [if_pos (show skT V p < V 0 6 by omega)]
      have hgo : ∀ (o : Option (Int × AMem)), RM V (pIt1 V W (skT V p)) o g → ∃ g' q, (o.bind (fun q11 => if q11.1 ≠ 0 then ((jM_skip L q11.2).bind (fun q13 => jM_readsAll_21 L (iw (c + 1)) q13)) else (some ((-201 : Int), q11.2)))) = some (if 0 < (if (pIt1 V W (skT V p)).1 = true then pIte V k (pIt1 V W (skT V p)).2.2 (pIt1 V W (skT V p)).2.1 (c + 1) else (-300 - (pIt1 V W (skT V p)).2.1, (pIt1 V W (skT V p)).2.2)).1 then (if (pIt1 V W (skT V p)).1 = true then pIte V k (pIt1 V W (skT V p)).2.2 (pIt1 V W (skT V p)).2.1 (c + 1) else (-300 - (pIt1 V W (skT V p)).2.1, (pIt1 V W (skT V p)).2.2)).1 else -201, g') ∧ Rd V (if (pIt1 V W (skT V p)).1 = true then pIte V k (pIt1 V W (skT V p)).2.2 (pIt1 V W (skT V p)).2.1 (c + 1) else (-300 - (pIt1 V W (skT V p)).2.1, (pIt1 V W (skT V p)).2.2)).2 q g' ∧ ((if (pIt1 V W (skT V p)).1 = true then pIte V k (pIt1 V W (skT V p)).2.2 (pIt1 V W (skT V p)).2.1 (c + 1) else (-300 - (pIt1 V W (skT V p)).2.1, (pIt1 V W (skT V p)).2.2)).1 ≤ 0 → (if (pIt1 V W (skT V p)).1 = true then pIte V k (pIt1 V W (skT V p)).2.2 (pIt1 V W (skT V p)).2.1 (c + 1) else (-300 - (pIt1 V W (skT V p)).2.1, (pIt1 V W (skT V p)).2.2)).1 = -300 - q) ∧ Lr g g' := by
        intro o ho
        have hg := pIt1_I (V := V) hR.1 hR.2.1 (p := skT V p) (by omega)
        obtain ⟨g1, a1, a2, a3⟩ := ho
        rw [a1, bnd]
        dsimp only
        rw [ifn]
        by_cases h2 : (pIt1 V W (skT V p)).1 = true
        · have hg3 := hg.2.2.1 h2
          rw [if_pos h2, if_pos h2]
          obtain ⟨g2, b1, b2, b3⟩ := cM_skip (L := L) a2
          rw [b1, bnd, iw_n (by omega) (by omega)]
          obtain ⟨g3, q, d1, d2, d3, d4⟩ := cM_rda21 k _ g2 _ (c + 1) b2 hg.2.1 (by omega) (by omega) (by omega)
          exact ⟨g3, q, d1, d2, d3, Lr_t a3 (Lr_t (Lr_p b3) d4)⟩
        · rw [if_neg h2, if_neg h2]
          dsimp only
          rw [if_neg (by have := a2.2.2.2.2.1; omega)]
          exact ⟨g1, _, rfl, a2, fun _ => rfl, a3⟩
      by_cases h2 : V 5 (skT V p) = 98
      · rw [if_neg (show ¬ V 5 (skT V p) ≠ 98 by omega)]
        refine hgo _ ?_
        have := cM_readsBlock (L := L) hR (by omega)
        unfold pIt1
        rw [if_pos h2]
        exact this
      · rw [if_pos h2, cM_here hR, bnd]
        dsimp only
        rw [if_pos (show skT V p < V 0 6 by omega)]
        by_cases h3 : V 5 (skT V p) = 101
        · rw [if_neg (show ¬ V 5 (skT V p) ≠ 101 by omega)]
          refine hgo _ ?_
          have := cM_readsEdge (L := L) hR (by omega)
          unfold pIt1
          rw [if_neg h2, if_pos h3]
          exact this
        · have hgo2 := hgo (some (0, g)) (by
            unfold pIt1
            rw [if_neg h2, if_neg h3]
            exact RM_f hR)
          rw [if_pos h3]
          rw [bnd] at hgo2
          exact hgo2
end RDE
