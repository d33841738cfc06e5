/-! the class: run -/
section RNC
variable {L : Nat} {V W g h : AMem} {B C S : Int → Int} {a c e f i k kd p q r s t w x : Int}
theorem k133 : aln (SH L) 133 = 36 ∧ aln (SH L) 134 = 36 := ⟨rfl, rfl⟩
theorem cDi_next (hx : g 135 0 = x) (h0 : 0 ≤ x) (h1 : x < 2147483648) (m0 : 1 ≤ c) (m1 : c ≤ 100000) : jDi_nextBelow L c g = some (xN x / 65536 % c, up g 135 0 (xN x)) := by
  have hb := xN_b (x := x)
  rw [jDi_nextBelow_eq, if_neg (by omega), if_neg (by omega), hx, xN_l h0 h1, up_s, drw hb.1 hb.2 (by omega) m0 m1]
theorem cMe_copy (hM : Mb 133 B g) (ha : ∀ k, 0 ≤ k → k < 36 → g 134 k = C k) (ht : plc t) (hf : plc f) (hw : f % 10 = t % 10) : ∃ g', jMe_copy L 134 f t g = some g' ∧ (∀ a k, a ≠ 133 → g' a k = g a k) ∧ Mb 133 (cpB C B (t / 10) (f / 10) (t % 10)) g' := by
  have bt := plc_b ht
  have bf := plc_b hf
  rw [hw] at bf
  rw [jMe_copy_eq L 134 f t g (by omega), cRg_width bt.1 (by omega), bnd]
  dsimp only
  refine lpx (F := fun i h => jMe_copy_9 L 134 f t (t % 10) i h) (I := fun i h => (∀ a k, a ≠ 133 → h a k = g a k) ∧ ∀ k, 0 ≤ k → k < 36 → h 133 k = cpB C B (t / 10) (f / 10) i k) (P := fun o => ∃ g', o = some g' ∧ (∀ a k, a ≠ 133 → g' a k = g a k) ∧ Mb 133 (cpB C B (t / 10) (f / 10) (t % 10)) g') (n := t % 10) ?_ ?_ 0 g (Int.le_refl _) (by omega) ⟨fun a k _ => rfl, fun k k0 k1 => by unfold cpB; rw [if_neg (by omega)]; exact hM k k0 k1⟩
  · intro i h h2 h3 hI ih
    have iT : 0 ≤ t / 10 + i ∧ t / 10 + i < 36 := by omega
    have iF : 0 ≤ f / 10 + i ∧ f / 10 + i < 36 := by omega
    rw [jMe_copy_9_eq L 134 f t _ i h (by omega), if_neg (by omega), cRg_firstByte bt.1 (by omega), bnd, cRg_firstByte bf.1 (by omega), bnd]
    dsimp only
    rw [iw_n iF.1 (by omega), iw_n iT.1 (by omega), (k133 (L := L)).2, if_pos iF, if_pos iT, iw_n (by omega) (by omega)]
    refine ih _ ⟨fun a k c => by rw [up_n (by omega), hI.1 a k c], fun k k0 k1 => ?_⟩
    by_cases c : k = t / 10 + i
    · rw [c, up_s, hI.1 _ _ (by omega), ha _ iF.1 iF.2]
      unfold cpB
      rw [if_pos (by omega)]
      congr 1
      omega
    · rw [up_n (by omega), hI.2 k k0 k1]
      unfold cpB
      by_cases c2 : t / 10 ≤ k ∧ k < t / 10 + i
      · rw [if_pos c2, if_pos (by omega)]
      · rw [if_neg c2, if_neg (by omega)]
  · intro h hI
    refine ⟨h, ?_, hI⟩
    rw [jMe_copy_9_eq L 134 f t _ _ h (by omega), if_pos (Int.le_refl _)]
theorem cMe_move (hM : Mb 133 B g) (ht : plc t) (hf : plc f) (hw : f % 10 = t % 10) : ∃ g', jMe_copy L 133 f t g = some g' ∧ (∀ a k, a ≠ 133 → g' a k = g a k) ∧ Mb 133 (cpB B B (t / 10) (f / 10) (t % 10)) g' := by
  have bt := plc_b ht
  have bf := plc_b hf
  have hd := plc_d ht hf hw
  rw [hw] at bf
  have hd2 : t / 10 = f / 10 ∨ t / 10 + t % 10 ≤ f / 10 ∨ f / 10 + t % 10 ≤ t / 10 := by
    rcases hd with h | h
    · left
      rw [h]
    · exact Or.inr h
  rw [jMe_copy_eq L 133 f t g (by omega), cRg_width bt.1 (by omega), bnd]
  dsimp only
  refine lpx (F := fun i h => jMe_copy_9 L 133 f t (t % 10) i h) (I := fun i h => (∀ a k, a ≠ 133 → h a k = g a k) ∧ ∀ k, 0 ≤ k → k < 36 → h 133 k = cpB B B (t / 10) (f / 10) i k) (P := fun o => ∃ g', o = some g' ∧ (∀ a k, a ≠ 133 → g' a k = g a k) ∧ Mb 133 (cpB B B (t / 10) (f / 10) (t % 10)) g') (n := t % 10) ?_ ?_ 0 g (Int.le_refl _) (by omega) ⟨fun a k _ => rfl, fun k k0 k1 => by unfold cpB; rw [if_neg (by omega)]; exact hM k k0 k1⟩
  · intro i h h2 h3 hI ih
    have iT : 0 ≤ t / 10 + i ∧ t / 10 + i < 36 := by omega
    have iF : 0 ≤ f / 10 + i ∧ f / 10 + i < 36 := by omega
    rw [jMe_copy_9_eq L 133 f t _ i h (by omega), if_neg (by omega), cRg_firstByte bt.1 (by omega), bnd, cRg_firstByte bf.1 (by omega), bnd]
    dsimp only
    rw [iw_n iF.1 (by omega), iw_n iT.1 (by omega), (k133 (L := L)).1, if_pos iF, if_pos iT, iw_n (by omega) (by omega)]
    refine ih _ ⟨fun a k c => by rw [up_n (by omega), hI.1 a k c], fun k k0 k1 => ?_⟩
    by_cases c : k = t / 10 + i
    · rw [c, up_s, hI.2 _ iF.1 iF.2]
      unfold cpB
      rw [if_neg (by omega), if_pos (by omega)]
      congr 1
      omega
    · rw [up_n (by omega), hI.2 k k0 k1]
      unfold cpB
      by_cases c2 : t / 10 ≤ k ∧ k < t / 10 + i
      · rw [if_pos c2, if_pos (by omega)]
      · rw [if_neg c2, if_neg (by omega)]
  · intro h hI
    refine ⟨h, ?_, hI⟩
    rw [jMe_copy_9_eq L 133 f t _ _ h (by omega), if_pos (Int.le_refl _)]
theorem cMe_put (hM : Mb 133 B g) (hr : isRg r = true) (hc0 : -100 ≤ c) (hc1 : c < 0) : ∃ g', jMe_put L c r g = some g' ∧ (∀ a k, a ≠ 133 → g' a k = g a k) ∧ Mb 133 (puB B r (-1 - c)) g' := by
  have hb := plc_b (Or.inl hr)
  have hr2 := isRg_b hr
  rw [jMe_put_eq, iw_n (by omega) (by omega)]
  refine lpx (F := fun i h => jMe_put_7 L c r (if i = 0 then -1 - c else 0) i h) (I := fun i h => (∀ a k, a ≠ 133 → h a k = g a k) ∧ ∀ k, 0 ≤ k → k < 36 → h 133 k = if r / 10 ≤ k ∧ k < r / 10 + i then (if k = r / 10 then -1 - c else 0) else B k) (P := fun o => ∃ g', o = some g' ∧ (∀ a k, a ≠ 133 → g' a k = g a k) ∧ Mb 133 (puB B r (-1 - c)) g') (n := r % 10) ?_ ?_ 0 g (Int.le_refl _) (by omega) ⟨fun a k _ => rfl, fun k k0 k1 => by rw [if_neg (by omega)]; exact hM k k0 k1⟩
  · intro i h h2 h3 hI ih
    have iR : 0 ≤ r / 10 + i ∧ r / 10 + i < 36 := by omega
    have hv : 0 ≤ (if i = 0 then -1 - c else 0) ∧ (if i = 0 then -1 - c else 0) ≤ 99 := by
      split <;> omega
    rw [jMe_put_7_eq, cRg_width (by omega) (by omega), bnd]
    dsimp only
    rw [if_neg (by omega), cRg_firstByte (by omega) (by omega), bnd]
    dsimp only
    rw [iw_n iR.1 (by omega), if_pos iR, tdv hv.1, sbm, show (if i = 0 then -1 - c else 0) / 256 = 0 by omega, iw_n (show (0 : Int) ≤ 0 by omega) (by omega), show (if i = 0 then -1 - c else 0) % 256 = (if i = 0 then -1 - c else 0) by omega, iw_n hv.1 (by omega), iw_n (show 0 ≤ i + 1 by omega) (by omega)]
    rw [if_neg (show ¬ i + 1 = 0 by omega)] at ih
    refine ih _ ⟨fun a k c => by rw [up_n (by omega), hI.1 a k c], fun k k0 k1 => ?_⟩
    by_cases e1 : k = r / 10 + i
    · rw [e1, up_s, if_pos (show r / 10 ≤ r / 10 + i ∧ r / 10 + i < r / 10 + (i + 1) by omega)]
      by_cases e3 : i = 0
      · rw [if_pos e3, if_pos (by omega)]
      · rw [if_neg e3, if_neg (by omega)]
    · rw [up_n (by omega), hI.2 k k0 k1]
      by_cases e2 : r / 10 ≤ k ∧ k < r / 10 + i
      · rw [if_pos e2, if_pos (show r / 10 ≤ k ∧ k < r / 10 + (i + 1) by omega)]
      · rw [if_neg e2, if_neg (show ¬ (r / 10 ≤ k ∧ k < r / 10 + (i + 1)) by omega)]
  · intro h hI
    refine ⟨h, ?_, hI⟩
    rw [jMe_put_7_eq, cRg_width (by omega) (by omega), bnd]
    dsimp only
    rw [if_pos (Int.le_refl _)]
/-- only the bytes, and those ahead -/
def R34 (g g' : AMem) : Prop := ∀ a k, a ≠ 133 → a ≠ 134 → g' a k = g a k
theorem cMe_exchange (hM : Mb 133 B g) (ht : plc t) (hf : plc f) (hw : f % 10 = t % 10) : ∃ g', jMe_exchange L t f g = some g' ∧ R34 g g' ∧ Mb 133 (swB B (t / 10) (f / 10) (t % 10)) g' := by
  have bt := plc_b ht
  have bf := plc_b hf
  have hd := plc_d ht hf hw
  rw [hw] at bf
  have hd2 : t / 10 = f / 10 ∨ t / 10 + t % 10 ≤ f / 10 ∨ f / 10 + t % 10 ≤ t / 10 := by
    rcases hd with h | h
    · left
      rw [h]
    · exact Or.inr h
  obtain ⟨G, hG⟩ : ∃ G, G = cpy g 133 0 134 0 36 := ⟨_, rfl⟩
  have hGn : ∀ a k, a ≠ 134 → G a k = g a k := fun a k c => by rw [hG, cpy_o (by omega)]
  have hGi : ∀ k, 0 ≤ k → k < 36 → G 134 k = B k := fun k k0 k1 => by
    rw [hG, cpy_i (by omega), show 0 + (k - 0) = k by omega]
    exact hM k k0 k1
  obtain ⟨g1, a1, a2, a3⟩ := cMe_copy (L := L) (g := G) (B := B) (C := B) (fun k k0 k1 => by rw [hGn _ _ (by omega)]; exact hM k k0 k1) hGi ht hf hw
  obtain ⟨g2, b1, b2, b3⟩ := cMe_copy (L := L) (C := B) a3 (fun k k0 k1 => by rw [a2 _ _ (by omega)]; exact hGi k k0 k1) hf ht hw.symm
  refine ⟨g2, ?_, fun a k c1 c2 => by rw [b2 a k c1, a2 a k c1, hGn a k c2], fun k k0 k1 => ?_⟩
  · rw [jMe_exchange_eq, if_pos (by omega), ← hG, a1, bnd, b1, bnd]
  · rw [b3 k k0 k1, hw]
    unfold swB cpB
    by_cases c1 : f / 10 ≤ k ∧ k < f / 10 + t % 10
    · rw [if_pos c1]
      by_cases c2 : t / 10 ≤ k ∧ k < t / 10 + t % 10
      · rw [if_pos c2]
        congr 1
        omega
      · rw [if_neg c2, if_pos c1]
    · rw [if_neg c1]
      by_cases c2 : t / 10 ≤ k ∧ k < t / 10 + t % 10
      · rw [if_pos c2, if_pos c2]
      · rw [if_neg c2, if_neg c2, if_neg c1]
theorem cMe_fillBy (hs0 : 0 ≤ s) (hs1 : s ≤ 999999) : ∃ g', jMe_fillBy L s g = some g' ∧ (∀ a k, a ≠ 133 → a ≠ 135 → g' a k = g a k) ∧ Mb 133 (flB s (g 133)) g' := by
  rw [jMe_fillBy_eq, jDi_start_eq, bnd]
  refine lpx (F := fun i h => jMe_fillBy_7 L s i h) (I := fun i h => (∀ a k, a ≠ 133 → a ≠ 135 → h a k = g a k) ∧ h 135 0 = xK s i.toNat ∧ ∀ k, 0 ≤ k → k < 36 → h 133 k = if k < i then xK s (k + 1).toNat / 65536 % 256 else g 133 k) (P := fun o => ∃ g', o = some g' ∧ (∀ a k, a ≠ 133 → a ≠ 135 → g' a k = g a k) ∧ Mb 133 (flB s (g 133)) g') (n := 32) ?_ ?_ 0 _ (Int.le_refl _) (by omega) ⟨fun a k _ _ => up_n (by omega), up_s, fun k k0 k1 => by rw [if_neg (by omega), up_n (by omega)]⟩
  · intro i h h2 h3 hI ih
    have hx := xK_b (s := s) hs0 (by omega) (k := i.toNat)
    rw [jMe_fillBy_7_eq, if_neg (by omega), cDi_next hI.2.1 hx.1 hx.2 (by omega) (by omega), bnd]
    dsimp only
    rw [if_pos (by omega), iw_n (show 0 ≤ i + 1 by omega) (by omega)]
    refine ih _ ⟨fun a k c1 c2 => by rw [up_n (by omega), up_n (by omega), hI.1 a k c1 c2], by rw [up_n (by omega), up_s, xK_s h2], fun k k0 k1 => ?_⟩
    by_cases e1 : k = i
    · rw [e1, up_s, if_pos (by omega), xK_s h2]
    · rw [up_n (by omega), up_n (by omega), hI.2.2 k k0 k1]
      by_cases e2 : k < i
      · rw [if_pos e2, if_pos (by omega)]
      · rw [if_neg e2, if_neg (by omega)]
  · intro h hI
    refine ⟨h, ?_, hI.1, fun k k0 k1 => ?_⟩
    · rw [jMe_fillBy_7_eq, if_pos (by omega)]
    · rw [hI.2.2 k k0 k1]
      unfold flB
      by_cases e1 : k < 32
      · rw [if_pos e1, if_pos ⟨k0, e1⟩]
      · rw [if_neg e1, if_neg (by omega)]
theorem cMe_hash (hM : Mb 133 B g) : jMe_hash L g = some (hsK B 32, g) := by
  rw [jMe_hash_eq]
  refine lp (F := fun i => jMe_hash_4 L (hsK B i.toNat) i g) (n := 32) ?_ ?_ 0 (Int.le_refl _) (by omega)
  · intro i h2 h3 ih
    rw [hsK_s h2] at ih
    rw [jMe_hash_4_eq, if_neg (by omega), if_pos (by omega), iw_n (show 0 ≤ i + 1 by omega) (by omega), hM i h2 (by omega)]
    exact ih
  · rw [jMe_hash_4_eq, if_pos (by omega)]
    rfl
theorem cMe_follow (hP : PlW L V e kd W 118 g) (hS : SO W) (h9 : W 0 0 ≤ 9) (hM : Mb 133 B g) : ∃ g', jMe_follow L 118 g = some g' ∧ R34 g g' ∧ Mb 133 (foB W B (W 0 0).toNat) g' := by
  have h00 := hS.1
  rw [jMe_follow_eq L 118 g (kP' (Or.inl rfl))]
  refine lpx (F := fun i h => jMe_follow_2 L 118 i h) (I := fun i h => R34 g h ∧ Mb 133 (foB W B i.toNat) h) (P := fun o => ∃ g', o = some g' ∧ R34 g g' ∧ Mb 133 (foB W B (W 0 0).toNat) g') (n := W 0 0) ?_ ?_ 0 g (Int.le_refl _) h00 ⟨fun a k _ _ => rfl, hM⟩
  · intro i h h2 h3 hI ih
    rw [foB_s h2] at ih
    have hk := hP.2.2.1 i h2 h3
    have ho := hS.2 i h2 h3
    have c9 : 0 ≤ i ∧ i < 9 := by omega
    have e3 : h 118 3 = W 0 0 := by rw [hI.1 _ _ (by omega) (by omega)]; exact hP.1.1
    have m1 : h (118 + 1) i = W 1 i := by rw [hI.1 _ _ (by omega) (by omega)]; exact hk.1
    have m2 : h (118 + 2) i = W 2 i := by rw [hI.1 _ _ (by omega) (by omega)]; exact hk.2.1
    have m3 : h (118 + 3) i = W 3 i := by rw [hI.1 _ _ (by omega) (by omega)]; exact hk.2.2
    have fin : ∀ o : Option AMem, (∃ g', o = some g' ∧ R34 h g' ∧ Mb 133 (stB (foB W B i.toNat) (W 1 i) (W 2 i) (W 3 i)) g') → ∃ g', (o.bind (fun q8 => jMe_follow_2 L 118 (i + 1) q8)) = some g' ∧ R34 g g' ∧ Mb 133 (foB W B (W 0 0).toNat) g' := by
      rintro o ⟨g', b1, b2, b3⟩
      rw [b1, bnd]
      exact ih g' ⟨fun a k c1 c2 => by rw [b2 a k c1 c2, hI.1 a k c1 c2], b3⟩
    rw [jMe_follow_2_eq L 118 i h (kP' (Or.inl rfl)), e3, if_neg (by omega), if_pos c9, if_pos c9, if_pos c9, if_pos c9, if_pos c9, if_pos c9, if_pos c9, m2, m3, iw_n (by omega) (by omega)]
    rcases ho.2 with q | q
    · rw [if_neg (show ¬ h (118 + 1) i ≠ 2 by rw [m1]; omega), if_pos c9]
      apply fin
      obtain ⟨g1, a1, a2, a3⟩ := cMe_put (L := L) (c := W 3 i) hI.2 q.2.1 q.2.2.1 q.2.2.2
      refine ⟨g1, a1, fun a k c1 c2 => a2 a k c1, ?_⟩
      unfold stB
      rw [if_pos q.1]
      exact a3
    · by_cases c1 : W 1 i = 1
      · rw [if_pos (show h (118 + 1) i ≠ 2 by rw [m1]; omega), if_neg (show ¬ h (118 + 1) i ≠ 1 by rw [m1]; omega)]
        apply fin
        obtain ⟨g1, a1, a2, a3⟩ := cMe_exchange (L := L) hI.2 ho.1 q.2.1 q.2.2
        refine ⟨g1, a1, a2, ?_⟩
        unfold stB
        rw [if_neg (by omega), if_pos c1]
        exact a3
      · have c0 : W 1 i = 0 := by
          rcases q.1 with h | h
          · exact h
          · exact absurd h.1 c1
        rw [if_pos (show h (118 + 1) i ≠ 2 by rw [m1]; omega), if_pos (show h (118 + 1) i ≠ 1 by rw [m1]; omega)]
        apply fin
        obtain ⟨g1, a1, a2, a3⟩ := cMe_move (L := L) hI.2 ho.1 q.2.1 q.2.2
        refine ⟨g1, a1, fun a k c1 c2 => a2 a k c1, ?_⟩
        unfold stB
        rw [if_neg (by omega), if_neg c1]
        exact a3
  · intro h hI
    refine ⟨h, ?_, hI⟩
    have e3 : h 118 3 = W 0 0 := by rw [hI.1 _ _ (by omega) (by omega)]; exact hP.1.1
    rw [jMe_follow_2_eq L 118 _ h (kP' (Or.inl rfl)), e3, if_pos (Int.le_refl _)]
theorem cMe_handOver (hV : VaV V) (hC : ClV V t g) (he0 : 0 ≤ e) (he1 : e < V 0 1) (hM : Mb 133 B g) : ∃ g', jMe_handOver L (t + 2 + 2 * V 3 e) (t + 23 + 2 * e) g = some g' ∧ R34 g g' ∧ Mb 133 (hoB V e B (V 1 (V 3 e)).toNat) g' := by
  have hn := edg_n hV he0 he1
  have hB := bOK_e hV he0 he1
  have hE := (hV.2.2.2.2.2.1 e he0 he1).2.2.2
  have h0 := hV.1
  have h1 := hV.2.1
  have ht := hC.1
  have hE2 := hV.2.2.2.2.2.1 e he0 he1
  have hgE := hC.2.2.1.2.2 e he0 he1
  have hgB := hC.2.2.1.2.1 _ hE2.2.1.1 hE2.2.1.2
  have kb : kin (SH L) (t + 2 + 2 * V 3 e) = 0 := (kG_b (kG' ht) (by omega) (by omega)).2
  have ke : kin (SH L) (t + 23 + 2 * e) = 2 := (kG_e (kG' ht) (by omega) (by omega)).2
  obtain ⟨G, hG⟩ : ∃ G, G = cpy g 133 0 134 0 36 := ⟨_, rfl⟩
  have hGn : ∀ a k, a ≠ 134 → G a k = g a k := fun a k c => by rw [hG, cpy_o (by omega)]
  have hGi : ∀ k, 0 ≤ k → k < 36 → G 134 k = B k := fun k k0 k1 => by
    rw [hG, cpy_i (by omega), show 0 + (k - 0) = k by omega]
    exact hM k k0 k1
  rw [jMe_handOver_eq L _ _ g kb ke, if_pos (by omega), ← hG]
  refine lpx (F := fun i h => jMe_handOver_17 L (t + 2 + 2 * V 3 e) (t + 23 + 2 * e) i h) (I := fun i h => (∀ a k, a ≠ 133 → h a k = G a k) ∧ Mb 133 (hoB V e B i.toNat) h) (P := fun o => ∃ g', o = some g' ∧ R34 g g' ∧ Mb 133 (hoB V e B (V 1 (V 3 e)).toNat) g') (n := V 1 (V 3 e)) ?_ ?_ 0 G (Int.le_refl _) hn.1 ⟨fun a k _ => rfl, fun k k0 k1 => by rw [hGn _ _ (by omega)]; exact hM k k0 k1⟩
  · intro i h h2 h3 hI ih
    rw [hoB_s h2] at ih
    have c6 : 0 ≤ i ∧ i < 6 := by omega
    have ec : h (t + 2 + 2 * V 3 e) 1 = V 1 (V 3 e) := by rw [hI.1 _ _ (by omega), hGn _ _ (by omega)]; exact hgB.1
    have ea : h (t + 23 + 2 * e + 1) i = V (20 + e) i := by rw [hI.1 _ _ (by omega), hGn _ _ (by omega)]; exact hgE.2.2.2 i h2 h3
    have ep : h (t + 2 + 2 * V 3 e + 1) i = V (10 + V 3 e) i := by rw [hI.1 _ _ (by omega), hGn _ _ (by omega)]; exact hgB.2 i h2 h3
    have hr := hB.2.1 i h2 h3
    have ho := hE i h2 h3
    rw [jMe_handOver_17_eq L _ _ i h kb ke, ec, if_neg (by omega), if_pos c6, if_pos c6, if_pos c6, if_pos c6, if_pos c6, ea, ep, iw_n (by omega) (by omega)]
    by_cases c : 0 ≤ V (20 + e) i
    · have hg := okA_r ho c
      rw [if_neg (by omega)] at ih
      obtain ⟨g1, a1, a2, a3⟩ := cMe_copy (L := L) (C := B) hI.2 (fun k k0 k1 => by rw [hI.1 _ _ (by omega)]; exact hGi k k0 k1) (Or.inl hr) (Or.inl hg.1) hg.2
      rw [if_pos c, a1, bnd]
      exact ih g1 ⟨fun a k c => by rw [a2 a k c, hI.1 a k c], a3⟩
    · have hb := okA_b ho
      rw [if_pos (by omega)] at ih
      obtain ⟨g1, a1, a2, a3⟩ := cMe_put (L := L) (c := V (20 + e) i) hI.2 hr (by omega) (by omega)
      rw [if_neg c, a1, bnd]
      exact ih g1 ⟨fun a k c => by rw [a2 a k c, hI.1 a k c], a3⟩
  · intro h hI
    have ec : h (t + 2 + 2 * V 3 e) 1 = V 1 (V 3 e) := by rw [hI.1 _ _ (by omega), hGn _ _ (by omega)]; exact hgB.1
    refine ⟨h, ?_, fun a k c1 c2 => by rw [hI.1 a k c1, hGn a k c2], hI.2⟩
    rw [jMe_handOver_17_eq L _ _ _ h kb ke, ec, if_pos (Int.le_refl _)]
/-- as CO, but for the bytes -/
def CR (o : Int × AMem) (S : Int → Int) (q : Option (Int × AMem)) (g : AMem) : Prop := ∃ g' t', q = some (o.1, g') ∧ ClV o.2 t' g' ∧ (∀ a k, a < 2 ∨ 137 ≤ a → g' a k = g a k) ∧ ∀ k, 32 ≤ k → k < 36 → g' 133 k = S k
theorem CR_c {o : Int × AMem} {u : Option (Int × AMem)} (h1 : CO o u h) (h2 : H6 g h) : CR o (g 133) u g := by
  obtain ⟨g', t', a1, a2, a3⟩ := h1
  exact ⟨g', t', a1, a2, fun a k c => by rw [a3 a k (by omega), h2 a k (by omega)], fun k _ _ => by rw [a3 133 k (by omega), h2 133 k (by omega)]⟩
theorem cX_runF (hV : VaV V) (hC : ClV V t g) (he0 : 0 ≤ e) (he1 : e < V 0 1) (hs0 : 0 ≤ s) (hs1 : s ≤ 999999) : CR (hsK (rnB V e s w (g 133)) 32, V) (rnB V e s w (g 133)) ((jMe_fillBy L s g).bind (fun q39 => if w ≠ 0 then ((jX_makePlan L 118 e q39).bind (fun q41 => (jMe_follow L 118 q41).bind (fun q42 => jMe_hash L q42))) else (if kin (SH L) (q39 2 0) = 3 then (if 0 ≤ e ∧ e < 16 then (if 0 ≤ q39 (q39 2 0 + 23 + 2 * e) 2 ∧ q39 (q39 2 0 + 23 + 2 * e) 2 < 10 then (if kin (SH L) (q39 2 0) = 3 then (if 0 ≤ e ∧ e < 16 then ((jMe_handOver L (q39 2 0 + 2 + 2 * (q39 (q39 2 0 + 23 + 2 * e) 2)) (q39 2 0 + 23 + 2 * e) q39).bind (fun q50 => jMe_hash L q50)) else none) else none) else none) else none) else none))) g := by
  have h0 := hV.1
  have h1 := hV.2.1
  have hE2 := hV.2.2.2.2.2.1 e he0 he1
  obtain ⟨g1, a1, a2, a3⟩ := cMe_fillBy (L := L) (g := g) hs0 hs1
  have hC1 := ClV_k hV hC (h := g1) (fun a k _ _ => a2 a k (by omega) (by omega))
  rw [a1, bnd]
  by_cases hw : w = 0
  · have hrn : rnB V e s w (g 133) = hoB V e (flB s (g 133)) (V 1 (V 3 e)).toNat := by
      unfold rnB
      rw [if_pos hw]
    have ht := hC1.1
    have e20 := hC1.2.1.1
    subst e20
    have hE := hC1.2.2.1.2.2 e he0 he1
    have c16 : 0 ≤ e ∧ e < 16 := by omega
    have c10 : 0 ≤ V 3 e ∧ V 3 e < 10 := by omega
    obtain ⟨g2, b1, b2, b3⟩ := cMe_handOver (L := L) hV hC1 he0 he1 a3
    rw [if_neg (show ¬ w ≠ 0 by omega), if_pos (kG' ht), if_pos c16]
    simp only [hE.2.1]
    rw [if_pos c10, if_pos (kG' ht), if_pos c16, b1, bnd, cMe_hash b3, hrn]
    unfold CR
    dsimp only
    exact ⟨g2, g1 2 0, rfl, ClV_k hV hC1 (fun a k _ _ => b2 a k (by omega) (by omega)), fun a k c => by rw [b2 a k (by omega) (by omega), a2 a k (by omega) (by omega)], fun k k0 k1 => b3 k (by omega) k1⟩
  · have hrn : rnB V e s w (g 133) = foB (plV V e (V 0 2)) (flB s (g 133)) (plV V e (V 0 2) 0 0).toNat := by
      unfold rnB
      rw [if_neg hw]
    obtain ⟨g2, b1, b2, b3⟩ := cX_makePlan (L := L) (q := 118) hV hC1 (Or.inl rfl) he0 he1
    have h9 := plV_9 (kd := V 0 2) hV he0 he1
    have hC2 := ClV_k hV hC1 (h := g2) (fun a k _ _ => b3 a k (by omega) (by omega))
    obtain ⟨g3, c1, c2, c3⟩ := cMe_follow (B := flB s (g 133)) b2 h9.1 h9.2 (fun k k0 k1 => by rw [b3 _ _ (by omega) (by omega)]; exact a3 k k0 k1)
    rw [if_pos hw, b1, bnd, c1, bnd, cMe_hash c3, hrn]
    unfold CR
    dsimp only
    exact ⟨g3, t, rfl, ClV_k hV hC2 (fun a k _ _ => c2 a k (by omega) (by omega)), fun a k c => by rw [c2 a k (by omega) (by omega), b3 a k (by omega) (by omega), a2 a k (by omega) (by omega)], fun k k0 k1 => c3 k (by omega) k1⟩
theorem cX_run (hV : VaV V) (hC : ClV V t g) : CR (oRun V e s w (g 133)) (oRunS V e s w (g 133)) (jX_run L e s w g) g := by
  have bad : ∀ F : Int × AMem → Option (Int × AMem), CR (rB V) (g 133) ((jX_refusalFor L e 0 g).bind (fun q => if q.1 = 0 then F q else (jX_refuse L q.1 q.2))) g := by
    intro F
    obtain ⟨h, a1, a2⟩ := cX_refusalFor (L := L) (e := e) (r := 0) hV hC
    have hCh := ClV_cs hV hC (H6_c a2)
    have e1 : (if 0 ≤ e ∧ e < V 0 1 then (if (0 : Int) ≠ 0 then (if clB V e = true then (0 : Int) else -203) else -202) else -202) = -202 := by
      split
      · rw [if_neg (by omega)]
      · rfl
    rw [e1] at a1
    rw [a1, bnd]
    dsimp only
    rw [if_neg (by omega)]
    exact CR_c (CO_B hV hCh) a2
  rw [jX_run_eq, cX_isBelow, bnd]
  simp only [bns]
  rw [ifz]
  unfold oRun oRunS
  by_cases hs : 0 ≤ s ∧ s ≤ 999999
  · rw [if_pos (show 0 ≤ s ∧ s < 1000000 by omega), if_pos hs, if_pos hs, cX_isBelow, bnd]
    dsimp only
    rw [ifz]
    by_cases hw : 0 ≤ w ∧ w ≤ 1
    · rw [if_pos (show 0 ≤ w ∧ w < 2 by omega), if_pos hw, if_pos hw]
      obtain ⟨h, a1, a2⟩ := cX_refusalFor (L := L) (e := e) (r := 1) hV hC
      have hCh := ClV_cs hV hC (H6_c a2)
      rw [if_pos (show (1 : Int) ≠ 0 by omega)] at a1
      rw [a1, bnd]
      dsimp only
      by_cases he : 0 ≤ e ∧ e < V 0 1
      · rw [if_pos he, if_pos he, if_pos he]
        by_cases hc : clB V e = true
        · rw [if_pos hc, if_pos hc, if_pos hc, if_pos rfl]
          have e133 : h 133 = g 133 := funext (fun k => a2 133 k (by omega))
          obtain ⟨g', t', b1, b2, b3, b4⟩ := cX_runF (L := L) (w := w) hV hCh he.1 he.2 hs.1 hs.2
          rw [e133] at b1 b2 b4
          exact ⟨g', t', b1, b2, fun a k c => by rw [b3 a k c, a2 a k (by omega)], b4⟩
        · rw [if_neg hc, if_neg hc, if_neg hc, if_neg (by omega)]
          exact CR_c (CO_N hV hCh) a2
      · rw [if_neg he, if_neg he, if_neg he, if_neg (by omega)]
        exact CR_c (CO_B hV hCh) a2
    · rw [if_neg (show ¬ (0 ≤ w ∧ w < 2) by omega), if_neg hw, if_neg hw]
      have e1 : (if 0 ≤ e ∧ e < V 0 1 then rB V else rB V) = rB V := by split <;> rfl
      have e2 : (if 0 ≤ e ∧ e < V 0 1 then g 133 else g 133) = g 133 := by split <;> rfl
      rw [e1, e2]
      exact bad _
  · rw [if_neg (show ¬ (0 ≤ s ∧ s < 1000000) by omega), if_neg hs, if_neg hs]
    have e1 : (if 0 ≤ e ∧ e < V 0 1 then rB V else rB V) = rB V := by split <;> rfl
    have e2 : (if 0 ≤ e ∧ e < V 0 1 then g 133 else g 133) = g 133 := by split <;> rfl
    rw [e1, e2]
    exact bad _
end RNC
