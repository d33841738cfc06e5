/-! the class: digest -/
section DGC
variable {L : Nat} {V g : AMem} {b e h i t x : Int}
theorem cB_mix (hV : VaV V) (ht : t = 3 ∨ t = 58) (hG : GrV V t g) (hb0 : 0 ≤ b) (hb1 : b < V 0 0) : jBk_mix L (t + 2 + 2 * b) h g = some (mxB V b h (V 1 b).toNat, g) := by
  have h0 := hV.1
  have hm := (hV.2.2.2.2.1 b hb0 hb1).1
  have hg := hG.2.1 b hb0 hb1
  have hk : kin (SH L) (t + 2 + 2 * b) = 0 := (kG_b (kG' ht) hb0 (by omega)).2
  rw [jBk_mix_eq L _ _ g hk, hg.1]
  refine lp (F := fun i => jBk_mix_15 L (t + 2 + 2 * b) h (mxB V b h i.toNat) i g) (n := V 1 b) ?_ ?_ 0 (Int.le_refl _) hm.1
  · intro i h2 h3 ih
    rw [mxB_s h2] at ih
    rw [jBk_mix_15_eq L _ _ _ _ g hk, hg.1, if_neg (by omega), if_pos (by omega), hg.2 i h2 h3, iw_n (by omega) (by omega)]
    exact ih
  · rw [jBk_mix_15_eq L _ _ _ _ g hk, hg.1, if_pos (Int.le_refl _)]
theorem cE_mix (hV : VaV V) (ht : t = 3 ∨ t = 58) (hG : GrV V t g) (he0 : 0 ≤ e) (he1 : e < V 0 1) : jEd_mix L (t + 23 + 2 * e) h (V 1 (V 3 e)) g = some (mxE V e h (V 1 (V 3 e)).toNat, g) := by
  have h1 := hV.2.1
  have hn := edg_n hV he0 he1
  have hg := hG.2.2 e he0 he1
  have hk : kin (SH L) (t + 23 + 2 * e) = 2 := (kG_e (kG' ht) he0 (by omega)).2
  rw [jEd_mix_eq L _ _ _ g hk, hg.1, hg.2.1, hg.2.2.1]
  refine lp (F := fun i => jEd_mix_44 L (t + 23 + 2 * e) h (V 1 (V 3 e)) (mxE V e h i.toNat) i g) (n := V 1 (V 3 e)) ?_ ?_ 0 (Int.le_refl _) hn.1
  · intro i h2 h3 ih
    rw [mxE_s h2] at ih
    rw [jEd_mix_44_eq L _ _ _ _ _ g hk, if_neg (by omega), if_pos (by omega), hg.2.2.2 i h2 h3, iw_n (by omega) (by omega)]
    exact ih
  · rw [jEd_mix_44_eq L _ _ _ _ _ g hk, if_pos (Int.le_refl _)]
theorem cX_digest (hV : VaV V) (hC : ClV V t g) : CO (oDigest V) (jX_digest L g) g := by
  have hb := hV.1
  have he := hV.2.1
  have ht := hC.1
  have hk3 : kin (SH L) (g 2 0) = 3 := by rw [hC.2.1.1]; exact kG' ht
  have e02 : g (g 2 0) 2 = V 0 0 := by rw [hC.2.1.1]; exact hC.2.2.1.1.1
  have e03 : g (g 2 0) 3 = V 0 1 := by rw [hC.2.1.1]; exact hC.2.2.1.1.2
  have s1 : jX_digest L g = jX_digest_33 L (dg1 V 0) 0 g := by
    rw [jX_digest_eq]
    refine lp (F := fun i => jX_digest_6 L (dg0 V i.toNat) i g) (n := 7) ?_ ?_ 0 (Int.le_refl _) (by omega)
    · intro i h2 h3 ih
      rw [dg0_s h2] at ih
      rw [jX_digest_6_eq, if_neg (by omega), cX_standing hC h2 (by omega), bnd, iw_n (show 0 ≤ i + 1 by omega) (by omega)]
      exact ih
    · rw [jX_digest_6_eq, if_pos (by omega)]
      rfl
  have s2 : jX_digest_33 L (dg1 V 0) 0 g = jX_digest_66 L (dg2 V 0) 0 g := by
    refine lp (F := fun i => jX_digest_33 L (dg1 V i.toNat) i g) (n := V 0 0) ?_ ?_ 0 (Int.le_refl _) hb.1
    · intro i h2 h3 ih
      rw [dg1_s h2] at ih
      rw [jX_digest_33_eq, if_pos hk3, if_neg (show ¬ g (g 2 0) 2 ≤ i by omega), if_pos hk3, if_pos (by omega), hC.2.1.1, cB_mix hV ht hC.2.2.1 h2 h3, bnd, iw_n (by omega) (by omega)]
      exact ih
    · rw [jX_digest_33_eq, if_pos hk3, if_pos (show g (g 2 0) 2 ≤ V 0 0 by omega)]
      rfl
  rw [s1, s2]
  unfold oDigest
  have s3 : jX_digest_66 L (dg2 V 0) 0 g = some (dg2 V (V 0 1).toNat, g) := by
    refine lp (F := fun i => jX_digest_66 L (dg2 V i.toNat) i g) (n := V 0 1) ?_ ?_ 0 (Int.le_refl _) he.1
    · intro i h2 h3 ih
      rw [dg2_s h2] at ih
      have hE := hC.2.2.1.2.2 i h2 h3
      have hE2 := hV.2.2.2.2.2.1 i h2 h3
      have c16 : 0 ≤ i ∧ i < 16 := by omega
      have c10 : 0 ≤ V 3 i ∧ V 3 i < 10 := by omega
      have hB := (hC.2.2.1.2.1 _ hE2.2.1.1 hE2.2.1.2).1
      rw [jX_digest_66_eq, if_pos hk3, if_neg (show ¬ g (g 2 0) 3 ≤ i by omega), if_pos hk3, if_pos c16]
      simp only [hC.2.1.1, hE.2.1]
      rw [if_pos (kG' ht), if_pos c16, if_pos c10, hB, cE_mix hV ht hC.2.2.1 h2 h3, bnd, iw_n (by omega) (by omega)]
      exact ih
    · rw [jX_digest_66_eq, if_pos hk3, if_pos (show g (g 2 0) 3 ≤ V 0 1 by omega)]
  rw [s3]
  exact CO_s hC
end DGC
