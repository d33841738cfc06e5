/-! the reference's plan: what lies where, moves -/
def opW (V : AMem) (e : Int) : AMem := fun a k => if a = 4 then (if vMv V e k = true ∧ 0 < V (20 + e) k then 1 else 0) else if a = 5 then V (20 + e) k else 0
def pMv (W : AMem) (i p : Int) : AMem := pLie (up (pAdd W 0 p (W 5 i)) 4 i 0) (W 5 i) p
def whI (V : AMem) (b n r d : Int) : Int := whK d (fun i => decide (V (10 + b) i = r)) n.toNat
section PLM
variable {L : Nat} {V W g : AMem} {a b c e f i k n r s t w : Int}
theorem cM_whoHas (hV : VaV V) (hR : RfV V g) (he0 : 0 ≤ e) (he1 : e < V 0 1) : jM_whoHas L e r g = some (whI V (V 3 e) (V 1 (V 3 e)) r (-201), g) := by
  have hn := edg_n hV he0 he1
  rw [jM_whoHas_eq]
  unfold whI
  refine lp (F := fun i => jM_whoHas_7 L e r (whK (-201) (fun i => decide (V (10 + V 3 e) i = r)) i.toNat) i g) (n := V 1 (V 3 e)) ?_ ?_ 0 (Int.le_refl _) hn.1
  · intro i h2 h3 ih
    rw [whK_s h2] at ih
    rw [jM_whoHas_7_eq, cM_manyOf hV hR he0 he1, bnd]
    dsimp only
    rw [if_neg (by omega), cM_parameterOf hV hR he0 he1 h2 h3, bnd, iw_n (show 0 ≤ i + 1 by omega) (by omega)]
    dsimp only
    by_cases q : V (10 + V 3 e) i = r
    · rw [if_neg (by simp [q])]
      rw [if_pos (by simp [q])] at ih
      exact ih
    · rw [if_pos q]
      rw [if_neg (by simp [q])] at ih
      exact ih
  · rw [jM_whoHas_7_eq, cM_manyOf hV hR he0 he1, bnd]
    dsimp only
    rw [if_pos (Int.le_refl _)]
theorem cM_lies (hV : VaV V) (hR : RfV V g) (he0 : 0 ≤ e) (he1 : e < V 0 1) (hP : RfP W (V 1 (V 3 e)) g) : ∃ g', jM_lies L e f t g = some g' ∧ RfP (pLie W f t) (V 1 (V 3 e)) g' ∧ Sp g g' := by
  have hn := edg_n hV he0 he1
  rw [jM_lies_eq]
  refine lpx (F := fun i h => jM_lies_3 L e f t i h) (I := fun i h => (∀ a k, a ≠ 149 → h a k = g a k) ∧ ∀ k, h 149 k = if 0 ≤ k ∧ k < i ∧ g 149 k = f then t else g 149 k) (P := fun q => ∃ g', q = some g' ∧ RfP (pLie W f t) (V 1 (V 3 e)) g' ∧ Sp g g') (n := V 1 (V 3 e)) ?_ ?_ 0 g (Int.le_refl _) hn.1 ⟨fun a k _ => rfl, fun k => by rw [if_neg (by omega)]⟩
  · intro i h h2 h3 hI ih
    have hS : Sp g h := fun a k q => hI.1 a k (by unfold spR at q; omega)
    have e1 : h 149 i = g 149 i := by rw [hI.2, if_neg (by omega)]
    rw [jM_lies_3_eq, cM_manyOf hV (RfV_sp hR hS) he0 he1, bnd]
    dsimp only
    rw [if_neg (by omega), if_pos (by omega), iw_n (show 0 ≤ i + 1 by omega) (by omega)]
    by_cases q : g 149 i = f
    · rw [if_neg (by rw [e1]; simp [q]), if_pos (by omega)]
      refine ih _ ⟨fun a k qa => by rw [up_n (by omega), hI.1 a k qa], fun k => ?_⟩
      by_cases q2 : k = i
      · rw [q2, up_s, if_pos ⟨h2, by omega, q⟩]
      · rw [up_n (by omega), hI.2 k]
        by_cases q4 : 0 ≤ k ∧ k < i ∧ g 149 k = f
        · rw [if_pos q4, if_pos ⟨by omega, by omega, q4.2.2⟩]
        · rw [if_neg q4, if_neg (fun q5 => q4 ⟨by omega, by omega, q5.2.2⟩)]
    · rw [if_pos (by rw [e1]; exact q), if_pos (by omega), if_pos (by omega)]
      refine ih _ ⟨fun a k qa => by rw [up_n (by omega), hI.1 a k qa], fun k => ?_⟩
      by_cases q2 : k = i
      · rw [q2, up_s, e1, if_neg (fun q5 => q q5.2.2)]
      · rw [up_n (by omega), hI.2 k]
        by_cases q4 : 0 ≤ k ∧ k < i ∧ g 149 k = f
        · rw [if_pos q4, if_pos ⟨by omega, by omega, q4.2.2⟩]
        · rw [if_neg q4, if_neg (fun q5 => q4 ⟨by omega, by omega, q5.2.2⟩)]
  · intro h hI
    have hS : Sp g h := fun a k q => hI.1 a k (by unfold spR at q; omega)
    refine ⟨h, ?_, ⟨?_, fun k q0 q1 => ?_, fun i q0 q1 => ?_⟩, hS⟩
    · rw [jM_lies_3_eq, cM_manyOf hV (RfV_sp hR hS) he0 he1, bnd]
      dsimp only
      rw [if_pos (Int.le_refl _)]
    · rw [hI.1 _ _ (by omega)]
      simp [pLie]
      exact hP.1
    · have e2 : ∀ k, pLie W f t 0 k = W 0 k := fun k => by simp [pLie]
      rw [e2] at q1
      rw [hI.1 _ _ (by omega), hI.1 _ _ (by omega), hI.1 _ _ (by omega)]
      simp [pLie]
      exact hP.2.1 k q0 q1
    · have e4 : pLie W f t 4 i = W 4 i := by simp [pLie]
      have e5 : pLie W f t 5 i = if W 5 i = f then t else W 5 i := by simp [pLie]
      have hi := hP.2.2 i q0 q1
      rw [hI.1 _ _ (by omega), hI.2, e4, e5]
      refine ⟨hi.1, fun q => ?_⟩
      rw [← hi.2 q]
      by_cases q2 : g 149 i = f
      · rw [if_pos ⟨q0, q1, q2⟩, if_pos q2]
      · rw [if_neg (fun q5 => q2 q5.2.2), if_neg q2]
theorem RfP_cl (hP : RfP W n g) (hi : 0 ≤ i) : RfP (up W 4 i w) n (up g 148 i w) ∨ w ≠ 0 := by
  by_cases hw : w = 0
  · left
    subst hw
    refine ⟨?_, fun k q0 q1 => ?_, fun j q0 q1 => ?_⟩
    · rw [up_n (by omega), up_n (by omega)]
      exact hP.1
    · rw [up_n (by omega)] at q1
      rw [up_n (by omega), up_n (by omega), up_n (by omega), up_n (by omega), up_n (by omega), up_n (by omega)]
      exact hP.2.1 k q0 q1
    · have hj := hP.2.2 j q0 q1
      rw [up_n (show (149 : Int) ≠ 148 ∨ j ≠ i by omega), up_n (show (5 : Int) ≠ 4 ∨ j ≠ i by omega)]
      by_cases q : j = i
      · rw [q, up_s, up_s]
        exact ⟨rfl, fun q => absurd rfl q⟩
      · rw [up_n (by omega), up_n (by omega)]
        exact hj
  · exact Or.inr hw
theorem cM_movesTo (hV : VaV V) (hR : RfV V g) (he0 : 0 ≤ e) (he1 : e < V 0 1) (hP : RfP W (V 1 (V 3 e)) g) (hs0 : 0 ≤ W 0 0) (hs1 : W 0 0 < 24) (hi0 : 0 ≤ i) (hi1 : i < V 1 (V 3 e)) (ho : W 4 i ≠ 0) : ∃ g', jM_movesTo L e i g = some g' ∧ RfP (pMv W i (V (10 + V 3 e) i)) (V 1 (V 3 e)) g' ∧ Sp g g' := by
  have hn := edg_n hV he0 he1
  obtain ⟨g1, h1, hP1, hS1⟩ := cM_comes (L := L) (s := 0) (t := V (10 + V 3 e) i) (f := W 5 i) hP hs0 hs1
  have hP2 : RfP (up (pAdd W 0 (V (10 + V 3 e) i) (W 5 i)) 4 i 0) (V 1 (V 3 e)) (up g1 148 i 0) := (RfP_cl (w := 0) hP1 hi0).resolve_right (by simp)
  have hS2 : Sp g (up g1 148 i 0) := Sp_u hS1 (by unfold spR; omega)
  obtain ⟨g3, h3, hP3, hS3⟩ := cM_lies (L := L) (f := W 5 i) (t := V (10 + V 3 e) i) hV (RfV_sp hR hS2) he0 he1 hP2
  refine ⟨g3, ?_, hP3, Sp_t hS2 hS3⟩
  rw [jM_movesTo_eq, cM_parameterOf hV hR he0 he1 hi0 hi1, bnd]
  dsimp only
  rw [if_pos (by omega), (hP.2.2 i hi0 hi1).2 ho, h1, bnd]
  rw [if_pos ⟨by omega, Or.inl rfl⟩, h3, bnd]
theorem cM_setOpen (hV : VaV V) (hR : RfV V g) (he0 : 0 ≤ e) (he1 : e < V 0 1) : ∃ g', jM_setOpen L e g = some g' ∧ Sp g g' ∧ g' 137 10 = g 137 10 ∧ ∀ i, 0 ≤ i → i < V 1 (V 3 e) → g' 148 i = opW V e 4 i ∧ (opW V e 4 i ≠ 0 → g' 149 i = opW V e 5 i) := by
  have hn := edg_n hV he0 he1
  rw [jM_setOpen_eq]
  refine lpx (F := fun i h => jM_setOpen_2 L e i h) (I := fun i h => (∀ a k, a ≠ 148 → a ≠ 149 → h a k = g a k) ∧ ∀ j, 0 ≤ j → j < i → h 148 j = opW V e 4 j ∧ (opW V e 4 j ≠ 0 → h 149 j = opW V e 5 j)) (P := fun q => ∃ g', q = some g' ∧ Sp g g' ∧ g' 137 10 = g 137 10 ∧ ∀ i, 0 ≤ i → i < V 1 (V 3 e) → g' 148 i = opW V e 4 i ∧ (opW V e 4 i ≠ 0 → g' 149 i = opW V e 5 i)) (n := V 1 (V 3 e)) ?_ ?_ 0 g (Int.le_refl _) hn.1 ⟨fun a k _ _ => rfl, fun j q0 q1 => by omega⟩
  · intro i h h2 h3 hI ih
    have hS : Sp g h := fun a k q => hI.1 a k (by unfold spR at q; omega) (by unfold spR at q; omega)
    have hR2 := RfV_sp hR hS
    have hR3 : ∀ w, RfV V (up h 148 i w) := fun w => RfV_sp hR (Sp_u hS (by unfold spR; omega))
    have st : ∀ x w, x = opW V e 4 i → (opW V e 4 i ≠ 0 → w = opW V e 5 i) → ∃ g', jM_setOpen_2 L e (i + 1) (up (up h 148 i x) 149 i w) = some g' ∧ Sp g g' ∧ g' 137 10 = g 137 10 ∧ ∀ i, 0 ≤ i → i < V 1 (V 3 e) → g' 148 i = opW V e 4 i ∧ (opW V e 4 i ≠ 0 → g' 149 i = opW V e 5 i) := by
      intro x w hx hw
      refine ih _ ⟨fun a k q q2 => by rw [up_n (by omega), up_n (by omega), hI.1 a k q q2], fun j q0 q1 => ?_⟩
      by_cases q : j = i
      · rw [q, up_n (by omega), up_s, up_s]
        exact ⟨hx, hw⟩
      · rw [up_n (by omega), up_n (by omega), up_n (by omega), up_n (by omega)]
        exact hI.2 j q0 (by omega)
    have h4 : opW V e 4 i = if vMv V e i = true ∧ 0 < V (20 + e) i then 1 else 0 := by simp [opW]
    have h5 : opW V e 5 i = V (20 + e) i := by simp [opW]
    rw [jM_setOpen_2_eq, cM_manyOf hV hR2 he0 he1, bnd]
    dsimp only
    rw [if_neg (by omega), cM_moves hV hR2 he0 he1 h2 h3, bnd, iw_n (show 0 ≤ i + 1 by omega) (by omega)]
    rw [ifz]
    by_cases q : vMv V e i = true
    · rw [if_pos q, cM_givenOf hV hR2 he0 he1 h2 h3, bnd]
      dsimp only
      by_cases q2 : V (20 + e) i ≤ 0
      · rw [if_pos q2, if_pos ⟨by omega, Or.inl rfl⟩, if_pos (by omega), up_s, if_pos rfl, if_pos (by omega)]
        exact st 0 _ (by rw [h4, if_neg (by omega)]) (fun q3 => by rw [h4, if_neg (by omega)] at q3; exact absurd rfl q3)
      · rw [if_neg q2, if_pos ⟨by omega, Or.inr rfl⟩, if_pos (by omega), up_s, if_neg (by omega), cM_givenOf hV (hR3 _) he0 he1 h2 h3, bnd]
        dsimp only
        rw [if_pos (by omega)]
        exact st 1 _ (by rw [h4, if_pos ⟨q, by omega⟩]) (fun q3 => h5.symm)
    · rw [if_neg q, if_pos ⟨by omega, Or.inl rfl⟩, if_pos (by omega), up_s, if_pos rfl, if_pos (by omega)]
      exact st 0 _ (by rw [h4, if_neg (fun q3 => q q3.1)]) (fun q3 => by rw [h4, if_neg (fun q3 => q q3.1)] at q3; exact absurd rfl q3)
  · intro h hI
    have hS : Sp g h := fun a k q => hI.1 a k (by unfold spR at q; omega) (by unfold spR at q; omega)
    refine ⟨h, ?_, hS, hI.1 _ _ (by omega) (by omega), hI.2⟩
    rw [jM_setOpen_2_eq, cM_manyOf hV (RfV_sp hR hS) he0 he1, bnd]
    dsimp only
    rw [if_pos (Int.le_refl _)]
end PLM
