/-! reach: the reference -/
section REA2
variable {L : Nat} {V g : AMem} {a b c e f i r w : Int}
/-- what lies in the row of distances ahead of a round, and within it -/
def fI (V : AMem) (a r : Int) (g : AMem) : Prop := ∀ b, 0 ≤ b → b < V 0 0 → (0 ≤ g 155 b ∧ g 155 b ≤ 1048576) ∧ (g 155 b < 1048576 → rK V a (g 155 b).toNat b = true) ∧ ∀ k : Nat, (k : Int) ≤ r → rK V a k b = true → g 155 b ≤ k
def fJ (V : AMem) (a i : Int) (g h : AMem) : Prop := (∀ b, 0 ≤ b → b < V 0 0 → (0 ≤ h 155 b ∧ h 155 b ≤ g 155 b) ∧ (h 155 b < 1048576 → rK V a (h 155 b).toNat b = true)) ∧ ∀ e, 0 ≤ e → e < i → h 155 (V 3 e) ≤ g 155 (V 2 e) + 1
def R5 (g h : AMem) : Prop := ∀ a k, a ≠ 155 → h a k = g a k
theorem RfV_5 {h : AMem} (hR : RfV V g) (hS : R5 g h) : RfV V h := RfV_k hR (fun a k q => hS a k (by omega))
theorem R5_sc {h : AMem} (hS : R5 g h) : Sc g h := fun a k q => hS a k (by unfold scR at q; omega)
theorem cM_rea67 (hV : VaV V) (hR : RfV V g) (hF : fI V a r g) (hr0 : 0 ≤ r) (hr1 : r < V 0 0) {x : AVal} : ∃ x' y' g', jM_reach_67 L a b r 0 x g = jM_reach_56 L a b (r + 1) x' y' g' ∧ R5 g g' ∧ fI V a (r + 1) g' := by
  have hn := hV.2.1
  have hb := hV.1
  refine lpx (F := fun i s => jM_reach_67 L a b r i s.1 s.2) (σ := AVal × AMem) (I := fun i s => R5 g s.2 ∧ fJ V a i g s.2) (P := fun q => ∃ x' y' g', q = jM_reach_56 L a b (r + 1) x' y' g' ∧ R5 g g' ∧ fI V a (r + 1) g') (n := V 0 1) ?_ ?_ 0 (x, g) (Int.le_refl _) hn.1 ⟨fun a k _ => rfl, fun b b0 b1 => ⟨⟨(hF b b0 b1).1.1, Int.le_refl _⟩, (hF b b0 b1).2.1⟩, fun e e0 e1 => by omega⟩
  · intro i s h2 h3 hI ih
    obtain ⟨y, h⟩ := s
    have ih := fun x h => ih (x, h)
    dsimp only at hI ih ⊢
    obtain ⟨hS, hJ1, hJ2⟩ := hI
    have hRh := RfV_5 hR hS
    have hE := hRh.2.2.1 i h2 h3
    have hE2 := hV.2.2.2.2.2.1 i h2 h3
    have c16 : 0 ≤ i ∧ i < 16 := by omega
    have cf : 0 ≤ V 2 i ∧ V 2 i < 10 := by omega
    have ct : 0 ≤ V 3 i ∧ V 3 i < 10 := by omega
    have jf := hJ1 (V 2 i) cf.1 (by omega)
    have jt := hJ1 (V 3 i) ct.1 (by omega)
    have gf := hF (V 2 i) cf.1 (by omega)
    have gt := hF (V 3 i) ct.1 (by omega)
    have key : ∀ v z, v = h 155 (V 3 i) ∧ h 155 (V 3 i) ≤ h 155 (V 2 i) + 1 ∨ (v = h 155 (V 2 i) + 1 ∧ v < h 155 (V 3 i)) → ∃ x' y' g', jM_reach_67 L a b r (i + 1) z (up h 155 (V 3 i) v) = jM_reach_56 L a b (r + 1) x' y' g' ∧ R5 g g' ∧ fI V a (r + 1) g' := by
      intro v z hv
      refine ih z _ ⟨fun a k q => by rw [up_n (by omega), hS a k q], fun b b0 b1 => ?_, fun e e0 e1 => ?_⟩
      · skip
        by_cases q : b = V 3 i
        · rw [q, up_s]
          rcases hv with hv | hv
          · rw [hv.1]
            exact jt
          · refine ⟨by omega, fun _ => ?_⟩
            have := rK_e (V := V) (a := a) (k := (h 155 (V 2 i)).toNat) h2 h3 (jf.2 (by omega))
            rw [hv.1, show (h 155 (V 2 i) + 1).toNat = (h 155 (V 2 i)).toNat + 1 by omega]
            exact this
        · rw [up_n (by omega)]
          exact hJ1 b b0 b1
      · by_cases q : V 3 e = V 3 i
        · rw [q, up_s]
          by_cases q2 : e = i
          · rw [q2]
            rcases hv with hv | hv <;> omega
          · have := hJ2 e e0 (by omega)
            rw [q] at this
            rcases hv with hv | hv <;> omega
        · rw [up_n (by omega)]
          by_cases q2 : e = i
          · rw [q2] at q
            exact absurd rfl q
          · exact hJ2 e e0 (by omega)
    rw [jM_reach_67_eq, hRh.1.2.1, if_neg (by omega), if_pos c16, hE.1, hE.2.1, if_pos cf, if_pos c16, if_pos c16, if_pos ct, if_pos c16, if_pos ct, if_pos ct, if_pos ct, iw_n (show 0 ≤ h 155 (V 2 i) + 1 by omega) (by omega), iw_n (show 0 ≤ i + 1 by omega) (by omega)]
    by_cases q : h 155 (V 3 i) ≤ h 155 (V 2 i) + 1
    · rw [if_pos q]
      exact key _ _ (Or.inl ⟨rfl, q⟩)
    · rw [if_neg q]
      exact key _ _ (Or.inr ⟨rfl, by omega⟩)
  · intro s hI
    obtain ⟨y, h⟩ := s
    dsimp only at hI ⊢
    obtain ⟨hS, hJ1, hJ2⟩ := hI
    refine ⟨vI (V 0 1), y, h, ?_, hS, fun b b0 b1 => ⟨⟨(hJ1 b b0 b1).1.1, by have := (hJ1 b b0 b1).1.2; have := (hF b b0 b1).1.2; omega⟩, (hJ1 b b0 b1).2, fun k hk hr => ?_⟩⟩
    · rw [jM_reach_67_eq, (RfV_5 hR hS).1.2.1, if_pos (Int.le_refl _), iw_n (by omega) (by omega)]
    · have hb2 := (hJ1 b b0 b1).1.2
      cases k with
      | zero =>
        have := (hF b b0 b1).2.2 0 (by omega) hr
        omega
      | succ k =>
        rcases rK_u hr with hr | ⟨e, e0, e1, e2, e3⟩
        · have := (hF b b0 b1).2.2 k (by omega) hr
          omega
        · have hE2 := hV.2.2.2.2.2.1 e e0 e1
          have h3 := (hF (V 2 e) hE2.1.1 hE2.1.2).2.2 k (by omega) e3
          have h4 := hJ2 e e0 e1
          rw [e2] at h4
          omega
theorem cM_rea23 (hV : VaV V) (hR : RfV V g) (ha0 : 0 ≤ a) (ha1 : a < V 0 0) : ∃ g', jM_reach_23 L a b 0 g = jM_reach_56 L a b 0 vU vU g' ∧ R5 g g' ∧ fI V a 0 g' := by
  have hb := hV.1
  refine lpx (F := fun i h => jM_reach_23 L a b i h) (I := fun i h => R5 g h ∧ ∀ k, 0 ≤ k → k < i → h 155 k = if k = a then 0 else 1048576) (P := fun q => ∃ g', q = jM_reach_56 L a b 0 vU vU g' ∧ R5 g g' ∧ fI V a 0 g') (n := V 0 0) ?_ ?_ 0 g (Int.le_refl _) hb.1 ⟨fun a k _ => rfl, fun k k0 k1 => by omega⟩
  · intro i h h2 h3 hI ih
    have key : ∀ v, v = (if i = a then 0 else 1048576) → ∃ g', jM_reach_23 L a b (i + 1) (up h 155 i v) = jM_reach_56 L a b 0 vU vU g' ∧ R5 g g' ∧ fI V a 0 g' := by
      intro v hv
      refine ih _ ⟨fun a k q => by rw [up_n (by omega), hI.1 a k q], fun k k0 k1 => ?_⟩
      by_cases q : k = i
      · rw [q, up_s, hv]
      · rw [up_n (by omega)]
        exact hI.2 k k0 (by omega)
    have c10 : 0 ≤ i ∧ i < 10 := by omega
    rw [jM_reach_23_eq, (RfV_5 hR hI.1).1.1, if_neg (by omega), if_pos c10, if_pos c10, iw_n (by omega) (by omega)]
    by_cases q : i = a
    · rw [if_neg (show ¬ i ≠ a by simp [q])]
      exact key _ (by rw [if_pos q])
    · rw [if_pos q]
      exact key _ (by rw [if_neg q])
  · intro h hI
    refine ⟨h, ?_, hI.1, fun b b0 b1 => ?_⟩
    · rw [jM_reach_23_eq, (RfV_5 hR hI.1).1.1, if_pos (Int.le_refl _)]
    · rw [hI.2 b b0 b1]
      by_cases q : b = a
      · rw [if_pos q]
        exact ⟨by omega, fun _ => by simp [rK, q], fun k _ _ => by omega⟩
      · rw [if_neg q]
        refine ⟨by omega, fun h => by omega, fun k hk hr => ?_⟩
        rw [show k = 0 by omega] at hr
        simp only [rK, decide_eq_true_eq] at hr
        exact absurd hr q
theorem cM_reach (hV : VaV V) (hR : RfV V g) : RO (oReach V a b) (jM_reach L a b g) g := by
  have hb := hV.1
  rw [jM_reach_eq, cM_isBlock hV hR, bnd]
  dsimp only
  rw [ifz, bns, cM_isBlock hV hR, bnd]
  dsimp only
  rw [ifn, bns]
  unfold oReach
  by_cases ha : 0 ≤ a ∧ a < V 0 0
  · rw [if_pos ha, if_pos ha]
    by_cases hb2 : 0 ≤ b ∧ b < V 0 0
    · rw [if_pos hb2, if_pos hb2]
      obtain ⟨g1, a1, a2, a3⟩ := cM_rea23 (L := L) (b := b) hV hR ha.1 ha.2
      rw [a1]
      refine lpx (F := fun i s => jM_reach_56 L a b i s.1 s.2.1 s.2.2) (σ := AVal × AVal × AMem) (I := fun i s => R5 g s.2.2 ∧ fI V a i s.2.2) (P := fun q => RO (dsR V a (V 0 0).toNat b, V) q g) (n := V 0 0) ?_ ?_ 0 (vU, vU, g1) (Int.le_refl _) hb.1 ⟨a2, a3⟩
      · intro i s h2 h3 hI ih
        have hRs := RfV_5 hR hI.1
        obtain ⟨x', y', g', b1, b2, b3⟩ := cM_rea67 (L := L) (b := b) (x := s.2.1) hV hRs hI.2 h2 h3
        rw [jM_reach_56_eq, hRs.1.1, if_neg (by omega), b1]
        exact ih (x', y', g') ⟨fun a k q => by dsimp only; rw [b2 a k q, hI.1 a k q], b3⟩
      · intro s hI
        have hRs := RfV_5 hR hI.1
        have hF := hI.2 b hb2.1 hb2.2
        have c10 : 0 ≤ b ∧ b < 10 := by omega
        rw [jM_reach_56_eq, hRs.1.1, if_pos (Int.le_refl _), if_pos c10, if_pos c10]
        have hd := dsR_b (V := V) (a := a) (b := b) (r := (V 0 0).toNat)
        by_cases q : s.2.2 155 b < 1048576
        · have hk := hF.2.1 q
          have hk2 := rK_n hV ha.1 ha.2 hk
          rw [if_pos q]
          rcases hd with hd | hd
          · rw [hd.2] at hk2
            cases hk2
          · have h4 := hF.2.2 (dsR V a (V 0 0).toNat b).toNat (by omega) hd.2.2.1
            have h5 : s.2.2 155 b = dsR V a (V 0 0).toNat b := by
              by_cases h6 : s.2.2 155 b < dsR V a (V 0 0).toNat b
              · have := hd.2.2.2 (s.2.2 155 b).toNat (by omega)
                rw [hk] at this
                cases this
              · omega
            rw [h5]
            exact ⟨s.2.2, rfl, hRs, Sc_lo (R5_sc hI.1)⟩
        · rw [if_neg q]
          rcases hd with hd | hd
          · rw [hd.1]
            exact ⟨s.2.2, rfl, hRs, Sc_lo (R5_sc hI.1)⟩
          · have h4 := hF.2.2 (dsR V a (V 0 0).toNat b).toNat (by omega) hd.2.2.1
            omega
    · rw [if_neg hb2, if_neg hb2]
      exact RO_B hR
  · rw [if_neg ha, if_neg ha]
    exact RO_B hR
end REA2
