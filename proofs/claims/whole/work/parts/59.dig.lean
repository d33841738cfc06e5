/-! digest: what it answers, and the reference -/
def hx1 (h v : Int) : Int := lw (lw (31 * h) + v)
def dg0 (V : AMem) : Nat → Int
  | 0 => 1913
  | k + 1 => hx1 (dg0 V k) (tlV V k)
def mxB (V : AMem) (b h : Int) : Nat → Int
  | 0 => hx1 h (V 1 b)
  | i + 1 => hx1 (mxB V b h i) (V (10 + b) i)
def dg1 (V : AMem) : Nat → Int
  | 0 => dg0 V 7
  | b + 1 => mxB V b (dg1 V b) (V 1 b).toNat
def mxE (V : AMem) (e h : Int) : Nat → Int
  | 0 => hx1 (hx1 (hx1 h (V 2 e)) (V 3 e)) (V 4 e)
  | i + 1 => hx1 (mxE V e h i) (V (20 + e) i)
def dg2 (V : AMem) : Nat → Int
  | 0 => dg1 V (V 0 0).toNat
  | e + 1 => mxE V e (dg2 V e) (V 1 (V 3 e)).toNat
def oDigest (V : AMem) : Int × AMem := (dg2 V (V 0 1).toNat, V)
section DIG
variable {L : Nat} {V g : AMem} {b e h i k x : Int}
theorem dg0_s (h0 : 0 ≤ i) : dg0 V (i + 1).toNat = hx1 (dg0 V i.toNat) (tlV V i) := by
  have e1 : (i + 1).toNat = i.toNat + 1 := by omega
  have e2 : ((i.toNat : Nat) : Int) = i := by omega
  rw [e1, dg0, e2]
theorem mxB_s (h0 : 0 ≤ i) : mxB V b h (i + 1).toNat = hx1 (mxB V b h i.toNat) (V (10 + b) i) := by
  have e1 : (i + 1).toNat = i.toNat + 1 := by omega
  have e2 : ((i.toNat : Nat) : Int) = i := by omega
  rw [e1, mxB, e2]
theorem dg1_s (h0 : 0 ≤ i) : dg1 V (i + 1).toNat = mxB V i (dg1 V i.toNat) (V 1 i).toNat := by
  have e1 : (i + 1).toNat = i.toNat + 1 := by omega
  have e2 : ((i.toNat : Nat) : Int) = i := by omega
  rw [e1, dg1, e2]
theorem mxE_s (h0 : 0 ≤ i) : mxE V e h (i + 1).toNat = hx1 (mxE V e h i.toNat) (V (20 + e) i) := by
  have e1 : (i + 1).toNat = i.toNat + 1 := by omega
  have e2 : ((i.toNat : Nat) : Int) = i := by omega
  rw [e1, mxE, e2]
theorem dg2_s (h0 : 0 ≤ i) : dg2 V (i + 1).toNat = mxE V i (dg2 V i.toNat) (V 1 (V 3 i)).toNat := by
  have e1 : (i + 1).toNat = i.toNat + 1 := by omega
  have e2 : ((i.toNat : Nat) : Int) = i := by omega
  rw [e1, dg2, e2]
theorem oDigest_V (hV : VaV V) : VaV (oDigest V).2 := hV
theorem cM_dig58 (hV : VaV V) (hR : RfV V g) (hb0 : 0 ≤ b) (hb1 : b < V 0 0) : jM_digest_58 L (hx1 h (V 1 b)) b 0 g = jM_digest_33 L (mxB V b h (V 1 b).toNat) (b + 1) (vI (V 1 b)) g := by
  have hb := hV.1
  have hm := (hV.2.2.2.2.1 b hb0 hb1).1
  have hg := hR.2.1 b hb0 hb1
  have c10 : 0 ≤ b ∧ b < 10 := by omega
  refine lp (F := fun i => jM_digest_58 L (mxB V b h i.toNat) b i g) (n := V 1 b) ?_ ?_ 0 (Int.le_refl _) hm.1
  · intro i h2 h3 ih
    rw [mxB_s h2] at ih
    rw [jM_digest_58_eq, if_pos c10, hg.1, if_neg (by omega), iw_n (show 0 ≤ 6 * b by omega) (by omega), iw_n (show 0 ≤ 6 * b + i by omega) (by omega), if_pos (by omega), hg.2 i h2 h3, iw_n (show 0 ≤ i + 1 by omega) (by omega)]
    exact ih
  · rw [jM_digest_58_eq, if_pos c10, hg.1, if_pos (Int.le_refl _), iw_n (by omega) (by omega)]
theorem cM_dig156 (hV : VaV V) (hR : RfV V g) (he0 : 0 ≤ e) (he1 : e < V 0 1) : jM_digest_156 L (mxE V e h 0) e 0 g = jM_digest_103 L (mxE V e h (V 1 (V 3 e)).toNat) (e + 1) (vI (V 1 (V 3 e))) g := by
  have hn := edg_n hV he0 he1
  have hE := hV.2.1
  refine lp (F := fun i => jM_digest_156 L (mxE V e h i.toNat) e i g) (n := V 1 (V 3 e)) ?_ ?_ 0 (Int.le_refl _) hn.1
  · intro i h2 h3 ih
    rw [mxE_s h2] at ih
    rw [jM_digest_156_eq, cM_manyOf hV hR he0 he1, bnd]
    dsimp only
    rw [if_neg (by omega), cM_givenOf hV hR he0 he1 h2 h3, bnd, iw_n (show 0 ≤ i + 1 by omega) (by omega)]
    exact ih
  · rw [jM_digest_156_eq, cM_manyOf hV hR he0 he1, bnd]
    dsimp only
    rw [if_pos (Int.le_refl _), iw_n (by omega) (by omega)]
theorem cM_digest (hV : VaV V) (hR : RfV V g) : RO (oDigest V) (jM_digest L g) g := by
  have hb := hV.1
  have he := hV.2.1
  have s1 : jM_digest L g = jM_digest_33 L (dg1 V 0) 0 vU g := by
    rw [jM_digest_eq]
    refine lp (F := fun i => jM_digest_6 L (dg0 V i.toNat) i g) (n := 7) ?_ ?_ 0 (Int.le_refl _) (by omega)
    · intro i h2 h3 ih
      rw [dg0_s h2] at ih
      rw [jM_digest_6_eq, if_neg (by omega), cM_tells hR h2 (by omega), bnd, iw_n (show 0 ≤ i + 1 by omega) (by omega)]
      exact ih
    · rw [jM_digest_6_eq, if_pos (by omega)]
      rfl
  have s2 : ∃ z, jM_digest_33 L (dg1 V 0) 0 vU g = jM_digest_103 L (dg2 V 0) 0 z g := by
    refine lpx (F := fun i x => jM_digest_33 L (dg1 V i.toNat) i x g) (I := fun _ _ => True) (P := fun q => ∃ z, q = jM_digest_103 L (dg2 V 0) 0 z g) (n := V 0 0) ?_ ?_ 0 vU (Int.le_refl _) hb.1 trivial
    · intro i x h2 h3 _ ih
      have ih := fun x => ih x trivial
      rw [dg1_s h2] at ih
      rw [jM_digest_33_eq, hR.1.1, if_neg (by omega), if_pos (by omega), (hR.2.1 i h2 h3).1]
      have := cM_dig58 (L := L) (h := dg1 V i.toNat) hV hR h2 h3
      unfold hx1 at this
      rw [this]
      exact ih _
    · intro x _
      refine ⟨x, ?_⟩
      rw [jM_digest_33_eq, hR.1.1, if_pos (Int.le_refl _)]
      rfl
  obtain ⟨z, s2⟩ := s2
  rw [s1, s2]
  unfold oDigest
  refine lpx (F := fun i x => jM_digest_103 L (dg2 V i.toNat) i x g) (I := fun _ _ => True) (P := fun q => RO (dg2 V (V 0 1).toNat, V) q g) (n := V 0 1) ?_ ?_ 0 z (Int.le_refl _) he.1 trivial
  · intro i x h2 h3 _ ih
    have ih := fun x => ih x trivial
    rw [dg2_s h2] at ih
    have hE := hR.2.2.1 i h2 h3
    have c16 : 0 ≤ i ∧ i < 16 := by omega
    rw [jM_digest_103_eq, hR.1.2.1, if_neg (by omega), if_pos c16, if_pos c16, if_pos c16, hE.1, hE.2.1, hE.2.2.1]
    have := cM_dig156 (L := L) (h := dg2 V i.toNat) hV hR h2 h3
    rw [mxE] at this
    unfold hx1 at this
    rw [this]
    exact ih _
  · intro x _
    rw [jM_digest_103_eq, hR.1.2.1, if_pos (Int.le_refl _)]
    exact RO_s hR
end DIG
