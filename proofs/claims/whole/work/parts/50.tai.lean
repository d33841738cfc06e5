/-! tail: what it answers, and the reference -/
def taS (V : AMem) (b : Int) : Nat → Int × Int
  | 0 => (-1, 0)
  | k + 1 => if V 3 k = b then (if (taS V b k).1 < 0 then ((k : Int), plV V k (V 0 2) 0 0) else ((taS V b k).1, if (taS V b k).2 ≤ sbK (plV V k (V 0 2)) (plV V (taS V b k).1 (V 0 2)) 10 0 then (taS V b k).2 else sbK (plV V k (V 0 2)) (plV V (taS V b k).1 (V 0 2)) 10 0)) else taS V b k
def oTail (V : AMem) (b : Int) : Int × AMem := if 0 ≤ b ∧ b < V 0 0 then (if ncB V b = true then rN V else ((taS V b (V 0 1).toNat).2, V)) else rB V
section TAI4
variable {L : Nat} {V W X g h : AMem} {a b bt c d e f i j kd n p q r t w x : Int}
theorem oTail_V (hV : VaV V) : VaV (oTail V b).2 := by
  unfold oTail
  repeat' split
  all_goals first
    | exact hV
    | exact rB_V hV
    | exact rN_V hV
theorem RfO_sp (hO : RfO X g) (hS : Sp g h) : RfO X h := by
  refine ⟨?_, fun k k0 k1 => ?_⟩
  · rw [hS _ _ (by unfold spR; omega)]
    exact hO.1
  · rw [hS _ _ (by unfold spR; omega), hS _ _ (by unfold spR; omega), hS _ _ (by unfold spR; omega)]
    exact hO.2 k k0 k1
theorem taS_s (h0 : 0 ≤ i) : taS V b (i + 1).toNat = if V 3 i = b then (if (taS V b i.toNat).1 < 0 then (i, plV V i (V 0 2) 0 0) else ((taS V b i.toNat).1, if (taS V b i.toNat).2 ≤ sbK (plV V i (V 0 2)) (plV V (taS V b i.toNat).1 (V 0 2)) 10 0 then (taS V b i.toNat).2 else sbK (plV V i (V 0 2)) (plV V (taS V b i.toNat).1 (V 0 2)) 10 0)) else taS V b i.toNat := by
  have e1 : (i + 1).toNat = i.toNat + 1 := by omega
  have e2 : ((i.toNat : Nat) : Int) = i := by omega
  rw [e1, taS, e2]
theorem taS_b : ∀ {k : Nat}, (taS V b k).1 < k
  | 0 => by simp [taS]
  | k + 1 => by
    have ih := taS_b (k := k)
    rw [taS]
    split
    · split
      · dsimp only
        omega
      · dsimp only
        omega
    · omega
theorem cM_tail76 (hV : VaV V) (hR : RfV V g) : RO ((taS V b (V 0 1).toNat).2, V) (jM_tail_76 L b 1 0 1 0 vU g) g := by
  have hn := hV.2.1
  refine lpx (F := fun i s => jM_tail_76 L b 1 (taS V b i.toNat).2 (if (taS V b i.toNat).1 < 0 then 1 else 0) i s.1 s.2) (σ := AVal × AMem) (I := fun i s => Sc g s.2 ∧ (0 ≤ (taS V b i.toNat).1 → RfO (plV V (taS V b i.toNat).1 (V 0 2)) s.2)) (P := fun q => RO ((taS V b (V 0 1).toNat).2, V) q g) (n := V 0 1) ?_ ?_ 0 (vU, g) (Int.le_refl _) hn.1 ⟨Sc_r, fun q => by simp [taS] at q⟩
  · intro i s h2 h3 hI ih
    rw [taS_s h2] at ih
    have hRs := RfV_sc hR hI.1
    have hb := taS_b (V := V) (b := b) (k := i.toNat)
    rw [jM_tail_76_eq, hRs.1.2.1, if_neg (by omega), if_pos (by omega), (hRs.2.2.1 i h2 h3).2.1, iw_n (show 0 ≤ i + 1 by omega) (by omega)]
    by_cases q : V 3 i = b
    · rw [if_neg (by simp [q])]
      rw [if_pos q] at ih
      obtain ⟨g1, a1, a2, a3⟩ := cM_setSteps (L := L) (kd := s.2 137 3) hV hRs h2 h3
      rw [hRs.1.2.2.1] at a1 a2
      have h9 := plV_9 (kd := V 0 2) hV h2 h3
      rw [hRs.1.2.2.1, a1, bnd]
      have hS1 : Sc g g1 := Sc_t hI.1 (Sp_sc a3)
      by_cases q2 : (taS V b i.toNat).1 < 0
      · rw [if_pos q2] at ih
        rw [if_pos q2, if_neg (by omega)]
        obtain ⟨g2, b1, b2, b3, b4⟩ := cM_asOther (L := L) a2 h9.1.1 h9.2
        rw [b1, bnd, b3.1]
        have := ih (s.1, g2) ⟨Sc_t hS1 b4, fun _ => b2⟩
        dsimp only at this
        rw [if_neg (by omega)] at this
        exact this
      · rw [if_neg q2] at ih
        rw [if_neg q2, if_pos rfl]
        have hO := RfO_sp (hI.2 (by omega)) a3
        have h9' := plV_9 (kd := V 0 2) hV (e := (taS V b i.toNat).1) (by omega) (by omega)
        rw [cM_sameBack a2 hO h9.1.1 h9.2 h9'.1.1 h9'.2, bnd]
        dsimp only
        by_cases q3 : (taS V b i.toNat).2 ≤ sbK (plV V i (V 0 2)) (plV V (taS V b i.toNat).1 (V 0 2)) 10 0
        · rw [if_pos q3]
          rw [if_pos q3] at ih
          have := ih (vI (sbK (plV V i (V 0 2)) (plV V (taS V b i.toNat).1 (V 0 2)) 10 0), g1) ⟨hS1, fun _ => hO⟩
          dsimp only at this
          rw [if_neg q2] at this
          exact this
        · rw [if_neg q3]
          rw [if_neg q3] at ih
          have := ih (vI (sbK (plV V i (V 0 2)) (plV V (taS V b i.toNat).1 (V 0 2)) 10 0), g1) ⟨hS1, fun _ => hO⟩
          dsimp only at this
          rw [if_neg q2] at this
          exact this
    · rw [if_pos q]
      rw [if_neg q] at ih
      exact ih s hI
  · intro s hI
    rw [jM_tail_76_eq, (RfV_sc hR hI.1).1.2.1, if_pos (Int.le_refl _)]
    exact ⟨s.2, rfl, RfV_sc hR hI.1, Sc_lo hI.1⟩
theorem cM_tail (hV : VaV V) (hR : RfV V g) : RO (oTail V b) (jM_tail L b g) g := by
  rw [jM_tail_eq, cM_isBlock hV hR, bnd]
  dsimp only
  rw [ifn, bns]
  unfold oTail
  by_cases hb : 0 ≤ b ∧ b < V 0 0
  · rw [if_pos hb, if_pos hb, cM_tail17 hV hR]
    by_cases hc : ncB V b = true
    · rw [if_pos hc, if_pos hc]
      exact RO_N hR
    · rw [if_neg hc, if_neg hc]
      exact cM_tail76 hV hR
  · rw [if_neg hb, if_neg hb]
    exact RO_B hR
end TAI4
