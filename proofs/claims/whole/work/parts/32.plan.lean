/-! a plan as numbers (W 0 0 how many steps, W 1 sorts, W 2 goals, W 3 sources, W 4 opens, W 5 what lies where), and the reference's rows of it -/
def pAdd (W : AMem) (s t f : Int) : AMem := fun a k => if a = 0 ∧ k = 0 then W 0 0 + 1 else if a = 1 ∧ k = W 0 0 then s else if a = 2 ∧ k = W 0 0 then t else if a = 3 ∧ k = W 0 0 then f else W a k
def pLie (W : AMem) (f t : Int) : AMem := fun a k => if a = 5 ∧ W 5 k = f then t else W a k
def wnB (W : AMem) (n r : Int) : Bool := anB (fun i => decide (W 4 i ≠ 0) && decide (W 5 i = r)) n.toNat
def opC (W : AMem) (n : Int) : Int := cnB (fun i => decide (W 4 i ≠ 0)) n.toNat
def loK (d : Int) (may : Int → Bool) (key : Int → Int) : Nat → Int
  | 0 => d
  | k + 1 => if may k = true ∧ (loK d may key k = d ∨ key k < key (loK d may key k)) then k else loK d may key k
def whK (d : Int) (hit : Int → Bool) : Nat → Int
  | 0 => d
  | k + 1 => if hit k = true then k else whK d hit k
theorem loK_s {d : Int} {may : Int → Bool} {key : Int → Int} {i : Int} (h : 0 ≤ i) : loK d may key (i + 1).toNat = if may i = true ∧ (loK d may key i.toNat = d ∨ key i < key (loK d may key i.toNat)) then i else loK d may key i.toNat := by
  have e : (i + 1).toNat = i.toNat + 1 := by omega
  have e2 : ((i.toNat : Nat) : Int) = i := by omega
  rw [e, loK, e2]
theorem whK_s {d : Int} {hit : Int → Bool} {i : Int} (h : 0 ≤ i) : whK d hit (i + 1).toNat = if hit i = true then i else whK d hit i.toNat := by
  have e : (i + 1).toNat = i.toNat + 1 := by omega
  have e2 : ((i.toNat : Nat) : Int) = i := by omega
  rw [e, whK, e2]
theorem loK_b {d : Int} {may : Int → Bool} {key : Int → Int} : ∀ {k : Nat}, loK d may key k = d ∨ (0 ≤ loK d may key k ∧ loK d may key k < k ∧ may (loK d may key k) = true)
  | 0 => Or.inl rfl
  | k + 1 => by
    rw [loK]
    split
    · rename_i h
      exact Or.inr ⟨by omega, by omega, h.1⟩
    · rcases loK_b (d := d) (may := may) (key := key) (k := k) with h | h
      · exact Or.inl h
      · exact Or.inr ⟨h.1, by omega, h.2.2⟩
theorem whK_b {d : Int} {hit : Int → Bool} : ∀ {k : Nat}, (whK d hit k = d ∧ ∀ i : Int, 0 ≤ i → i < k → hit i = false) ∨ (0 ≤ whK d hit k ∧ whK d hit k < k ∧ hit (whK d hit k) = true)
  | 0 => Or.inl ⟨rfl, fun i h0 h1 => by omega⟩
  | k + 1 => by
    rw [whK]
    by_cases h : hit k = true
    · rw [if_pos h]
      exact Or.inr ⟨by omega, by omega, h⟩
    · rw [if_neg h]
      rcases whK_b (d := d) (hit := hit) (k := k) with q | q
      · refine Or.inl ⟨q.1, fun i h0 h1 => ?_⟩
        by_cases e : i = k
        · rw [e]
          exact Bool.eq_false_iff.mpr h
        · exact q.2 i h0 (by omega)
      · exact Or.inr ⟨q.1, by omega, q.2.2⟩
def RfP (W : AMem) (n : Int) (g : AMem) : Prop := g 137 10 = W 0 0 ∧ (∀ k, 0 ≤ k → k < W 0 0 → g 145 k = W 1 k ∧ g 146 k = W 2 k ∧ g 147 k = W 3 k) ∧ ∀ i, 0 ≤ i → i < n → g 148 i = W 4 i ∧ (W 4 i ≠ 0 → g 149 i = W 5 i)
section PLR
variable {L : Nat} {V W g : AMem} {a b c e f i k n r s t w : Int}
theorem cM_comes (hP : RfP W n g) (h0 : 0 ≤ W 0 0) (h1 : W 0 0 < 24) : ∃ g', jM_comes L s t f g = some g' ∧ RfP (pAdd W s t f) n g' ∧ Sp g g' := by
  have e1 : g 137 10 = W 0 0 := hP.1
  refine ⟨up (up (up (up g 145 (W 0 0) s) 146 (W 0 0) t) 147 (W 0 0) f) 137 10 (W 0 0 + 1), ?_, ⟨?_, fun k q0 q1 => ?_, fun i q0 q1 => ?_⟩, Sp_u (Sp_u (Sp_u (Sp_u Sp_r (by unfold spR; omega)) (by unfold spR; omega)) (by unfold spR; omega)) (by unfold spR; omega)⟩
  · rw [jM_comes_eq, e1, if_pos (by omega), up_n (show (137 : Int) ≠ 145 ∨ (10 : Int) ≠ W 0 0 by omega), e1, if_pos (by omega), up_n (show (137 : Int) ≠ 146 ∨ (10 : Int) ≠ W 0 0 by omega), up_n (show (137 : Int) ≠ 145 ∨ (10 : Int) ≠ W 0 0 by omega), e1, if_pos (by omega), up_n (show (137 : Int) ≠ 147 ∨ (10 : Int) ≠ W 0 0 by omega), up_n (show (137 : Int) ≠ 146 ∨ (10 : Int) ≠ W 0 0 by omega), up_n (show (137 : Int) ≠ 145 ∨ (10 : Int) ≠ W 0 0 by omega), e1, iw_n (by omega) (by omega)]
  · rw [up_s]
    simp [pAdd]
  · have e2 : pAdd W s t f 0 0 = W 0 0 + 1 := by simp [pAdd]
    rw [e2] at q1
    rw [up_n (show (145 : Int) ≠ 137 ∨ k ≠ 10 by omega), up_n (show (146 : Int) ≠ 137 ∨ k ≠ 10 by omega), up_n (show (147 : Int) ≠ 137 ∨ k ≠ 10 by omega), up_n (show (145 : Int) ≠ 147 ∨ k ≠ W 0 0 by omega), up_n (show (146 : Int) ≠ 147 ∨ k ≠ W 0 0 by omega), up_n (show (145 : Int) ≠ 146 ∨ k ≠ W 0 0 by omega)]
    by_cases q : k = W 0 0
    · rw [q, up_s, up_s, up_s]
      simp [pAdd]
    · rw [up_n (by omega), up_n (by omega), up_n (by omega), up_n (by omega)]
      have := hP.2.1 k q0 (by omega)
      simp [pAdd, q]
      exact this
  · have e2 : ∀ k, pAdd W s t f 4 k = W 4 k := fun k => by simp [pAdd]
    have e3 : ∀ k, pAdd W s t f 5 k = W 5 k := fun k => by simp [pAdd]
    rw [e2, e3, up_n (by omega), up_n (by omega), up_n (by omega), up_n (by omega), up_n (by omega), up_n (by omega), up_n (by omega), up_n (by omega)]
    exact hP.2.2 i q0 q1
theorem cM_isWanted (hP : RfP W n g) (h0 : 0 ≤ n) (h6 : n ≤ 6) : jM_isWanted L r n g = some (if wnB W n r = true then 1 else 0, g) := by
  rw [jM_isWanted_eq]
  unfold wnB
  refine lp (F := fun i => jM_isWanted_5 L r n (if anB (fun i => decide (W 4 i ≠ 0) && decide (W 5 i = r)) i.toNat = true then 1 else 0) i g) (n := n) ?_ ?_ 0 (Int.le_refl _) h0
  · intro i h2 h3 ih
    rw [anB_s h2] at ih
    have hi := hP.2.2 i h2 h3
    rw [jM_isWanted_5_eq, if_neg (by omega), ifn, iw_n (show 0 ≤ i + 1 by omega) (by omega)]
    by_cases h4 : anB (fun i => decide (W 4 i ≠ 0) && decide (W 5 i = r)) i.toNat = true
    · rw [if_pos h4]
      rw [h4] at ih
      simpa using ih
    · rw [if_neg h4, if_pos (by omega), hi.1]
      rw [Bool.eq_false_iff.mpr h4] at ih
      by_cases h5 : W 4 i = 0
      · rw [if_pos h5]
        simpa [h5] using ih
      · rw [if_neg h5, if_pos (by omega), hi.2 h5]
        by_cases h7 : W 5 i = r
        · rw [if_neg (by simp [h7])]
          simpa [h5, h7] using ih
        · rw [if_pos h7]
          simpa [h5, h7] using ih
  · rw [jM_isWanted_5_eq, if_pos (Int.le_refl _)]
    simp only [b2b, if_true]
theorem cM_openMany (hP : RfP W n g) (h0 : 0 ≤ n) (h6 : n ≤ 6) : jM_openMany L n g = some (opC W n, g) := by
  rw [jM_openMany_eq]
  unfold opC
  refine lp (F := fun i => jM_openMany_4 L n (cnB (fun i => decide (W 4 i ≠ 0)) i.toNat) i g) (n := n) ?_ ?_ 0 (Int.le_refl _) h0
  · intro i h2 h3 ih
    have hc := cnB_b (f := fun i => decide (W 4 i ≠ 0)) (k := i.toNat)
    rw [cnB_s h2] at ih
    rw [jM_openMany_4_eq, if_neg (by omega), if_pos (by omega), (hP.2.2 i h2 h3).1, iw_n (show 0 ≤ i + 1 by omega) (by omega), iw_n (show 0 ≤ cnB (fun i => decide (W 4 i ≠ 0)) i.toNat + 0 by omega) (by omega), iw_n (show 0 ≤ cnB (fun i => decide (W 4 i ≠ 0)) i.toNat + 1 by omega) (by omega)]
    by_cases q : W 4 i = 0
    · rw [if_pos q]
      rw [if_neg (by simp [q])] at ih
      exact ih
    · rw [if_neg q]
      rw [if_pos (by simp [q])] at ih
      exact ih
  · rw [jM_openMany_4_eq, if_pos (Int.le_refl _)]
/-- which may be the least: all that are open, or those in which nothing lies that is wanted -/
def myB (V W : AMem) (b n : Int) (u : Bool) (i : Int) : Bool := decide (W 4 i ≠ 0) && !(u && wnB W n (V (10 + b) i))
theorem cM_leastOpen (hV : VaV V) (hR : RfV V g) (he0 : 0 ≤ e) (he1 : e < V 0 1) (hP : RfP W (V 1 (V 3 e)) g) (u : Bool) : jM_leastOpen L e (if u = true then 1 else 0) g = some (loK (-201) (myB V W (V 3 e) (V 1 (V 3 e)) u) (fun i => V (10 + V 3 e) i / 10) (V 1 (V 3 e)).toNat, g) := by
  have hn := edg_n hV he0 he1
  obtain ⟨z, hz⟩ : ∃ z, z = (if u = true then (1 : Int) else 0) := ⟨_, rfl⟩
  rw [← hz, jM_leastOpen_eq, cM_manyOf hV hR he0 he1, bnd]
  dsimp only
  refine lpx (F := fun i w => jM_leastOpen_14 L e z (V 1 (V 3 e)) (loK (-201) (myB V W (V 3 e) (V 1 (V 3 e)) u) (fun i => V (10 + V 3 e) i / 10) i.toNat) i w g) (I := fun _ _ => True) (P := fun q => q = some (loK (-201) (myB V W (V 3 e) (V 1 (V 3 e)) u) (fun i => V (10 + V 3 e) i / 10) (V 1 (V 3 e)).toNat, g)) (n := V 1 (V 3 e)) ?_ ?_ 0 vU (Int.le_refl _) hn.1 trivial
  · intro i w h2 h3 _ ih
    have ih := fun w => ih w trivial
    rw [loK_s h2] at ih
    have hp := (edg_b hV he0 he1 h2 h3).1
    have hl := loK_b (d := -201) (may := myB V W (V 3 e) (V 1 (V 3 e)) u) (key := fun i => V (10 + V 3 e) i / 10) (k := i.toNat)
    generalize hlo : loK (-201) (myB V W (V 3 e) (V 1 (V 3 e)) u) (fun i => V (10 + V 3 e) i / 10) i.toNat = lo at ih hl ⊢
    have hm : myB V W (V 3 e) (V 1 (V 3 e)) u i = (decide (W 4 i ≠ 0) && !(u && wnB W (V 1 (V 3 e)) (V (10 + V 3 e) i))) := rfl
    rw [hm] at ih
    rw [jM_leastOpen_14_eq, if_neg (by omega), if_pos (by omega), (hP.2.2 i h2 h3).1, iw_n (show 0 ≤ i + 1 by omega) (by omega)]
    by_cases h4 : W 4 i = 0
    · rw [if_pos h4]
      rw [if_neg (by simp [h4])] at ih
      exact ih _
    · rw [if_neg h4]
      have hk : ∀ X Y : AVal, lo ≠ -201 → ((jM_parameterOf L e i g).bind (fun q7 => (jM_byteOf L q7.1 q7.2).bind (fun q8 => (jM_parameterOf L e lo q8.2).bind (fun q9 => (jM_byteOf L q9.1 q9.2).bind (fun q10 => if q10.1 ≤ q8.1 then (jM_leastOpen_14 L e z (V 1 (V 3 e)) lo (i + 1) X q10.2) else (jM_leastOpen_14 L e z (V 1 (V 3 e)) i (i + 1) Y q10.2)))))) = if V (10 + V 3 e) lo / 10 ≤ V (10 + V 3 e) i / 10 then jM_leastOpen_14 L e z (V 1 (V 3 e)) lo (i + 1) X g else jM_leastOpen_14 L e z (V 1 (V 3 e)) i (i + 1) Y g := by
        intro X Y hlo2
        have hb2 := (edg_b hV he0 he1 (i := lo) (by omega) (by omega)).1
        rw [cM_parameterOf hV hR he0 he1 h2 h3, bnd, cM_byteOf (by omega) (by omega), bnd, cM_parameterOf hV hR he0 he1 (by omega) (by omega), bnd, cM_byteOf (by omega) (by omega), bnd]
      cases u
      · have hz : z = 0 := by rw [hz]; rfl
        rw [if_pos hz]
        by_cases h5 : lo = -201
        · rw [if_pos h5]
          rw [if_pos (by simp [h4, h5])] at ih
          exact ih _
        · rw [if_neg h5, hk _ _ h5]
          by_cases h6 : V (10 + V 3 e) lo / 10 ≤ V (10 + V 3 e) i / 10
          · rw [if_pos h6]
            rw [if_neg (fun q => by rcases q.2 with q | q; exact h5 q; omega)] at ih
            exact ih _
          · rw [if_neg h6]
            rw [if_pos ⟨by simp [h4], Or.inr (by omega)⟩] at ih
            exact ih _
      · have hz : z = 1 := by rw [hz]; rfl
        rw [if_neg (by omega), cM_parameterOf hV hR he0 he1 h2 h3, bnd]
        dsimp only
        rw [cM_isWanted hP hn.1 hn.2, bnd]
        dsimp only
        rw [ifn]
        by_cases h7 : wnB W (V 1 (V 3 e)) (V (10 + V 3 e) i) = true
        · rw [if_pos h7]
          rw [if_neg (by simp [h7])] at ih
          exact ih _
        · rw [if_neg h7]
          by_cases h5 : lo = -201
          · rw [if_pos h5]
            rw [if_pos (by simp [h4, h5, h7])] at ih
            exact ih _
          · rw [if_neg h5, hk _ _ h5]
            by_cases h6 : V (10 + V 3 e) lo / 10 ≤ V (10 + V 3 e) i / 10
            · rw [if_pos h6]
              rw [if_neg (fun q => by rcases q.2 with q | q; exact h5 q; omega)] at ih
              exact ih _
            · rw [if_neg h6]
              rw [if_pos ⟨by simp [h4, h7], Or.inr (by omega)⟩] at ih
              exact ih _
  · intro w _
    rw [jM_leastOpen_14_eq, if_pos (Int.le_refl _)]
end PLR
