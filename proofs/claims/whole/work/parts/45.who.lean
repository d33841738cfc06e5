section WHO3
variable {L : Nat} {V W g : AMem} {a b bt c d e f i j k kd n p q r t w x : Int}
theorem cM_whole (hV : VaV V) (hR : RfV V g) : RO (oWhole V w) (jM_whole L w g) g := by
  have hn := hV.2.1
  rw [jM_whole_eq, cM_in, bnd]
  dsimp only
  rw [ifn, bns]
  unfold oWhole
  by_cases hw : 0 ≤ w ∧ w ≤ 3
  · rw [if_pos hw, if_pos hw]
    refine lpx (F := fun i s => jM_whole_18 L w (smI (whA V w) i.toNat) i s.1 s.2.1 s.2.2.1 s.2.2.2) (σ := AVal × AVal × AVal × AMem) (I := fun i s => Sp g s.2.2.2 ∧ 0 ≤ smI (whA V w) i.toNat ∧ smI (whA V w) i.toNat ≤ 8019 * i) (P := fun q => RO (smI (whA V w) (V 0 1).toNat, V) q g) (n := V 0 1) ?_ ?_ 0 (vU, vU, vU, g) (Int.le_refl _) hn.1 ⟨Sp_r, by simp [smI], by simp [smI]⟩
    · intro i s h2 h3 hI ih
      have hb := whA_b (w := w) hV h2 h3
      obtain ⟨x', y', z', g1, a1, a2⟩ := cM_who1 (L := L) (a := smI (whA V w) i.toNat) (x := s.1) (y := s.2.1) (z := s.2.2.1) hV (RfV_sp hR hI.1) h2 h3 hw.1 hw.2 hI.2.1 (by omega)
      rw [smI_s h2] at ih
      rw [a1]
      exact ih (x', y', z', g1) ⟨Sp_t hI.1 a2, by omega, by omega⟩
    · intro s hI
      rw [jM_whole_18_eq, (RfV_sp hR hI.1).1.2.1, if_pos (Int.le_refl _)]
      exact RO_sc hR hI.1
  · rw [if_neg hw, if_neg hw]
    exact RO_B hR
end WHO3
