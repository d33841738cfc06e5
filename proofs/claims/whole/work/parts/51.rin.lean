/-! rings: those that are open at first -/
def opB (V : AMem) (e i : Int) : Bool := decide (vMv V e i = true ∧ 0 < V (20 + e) i)
def wtF (V : AMem) (e r i : Int) : Bool := opB V e i && decide (V (20 + e) i = r)
def wtC (V : AMem) (e r : Int) : Int := cnB (wtF V e r) (V 1 (V 3 e)).toNat
def opA (V : AMem) (e r : Int) : Int := whK (-1) (fun i => opB V e i && decide (V (10 + V 3 e) i = r)) (V 1 (V 3 e)).toNat
def sxI (V : AMem) (e i : Int) : Int := if wtC V e (V (10 + V 3 e) i) = 1 then opA V e (V (20 + e) i) else -1
def rgF (V : AMem) (e p : Int) : Nat → Int → Int → Int
  | 0, _, _ => 0
  | k + 1, i, n => if sxI V e i < 0 then 0 else if sxI V e i = p then n else rgF V e p k (sxI V e i) (n + 1)
def rgZ (V : AMem) (e i : Int) : Int := if opB V e i = true then rgF V e i (V 1 (V 3 e)).toNat i 1 else 0
def RfQ (V : AMem) (e : Int) (g : AMem) : Prop := ∀ i, 0 ≤ i → i < V 1 (V 3 e) → g 148 i = opW V e 4 i ∧ (opW V e 4 i ≠ 0 → g 149 i = opW V e 5 i)
theorem cnB_1 {f : Int → Bool} {i j : Int} : ∀ {k : Nat}, cnB f k ≤ 1 → 0 ≤ i → i < k → f i = true → 0 ≤ j → j < k → f j = true → i = j
  | 0, _, h0, h1, _, _, _, _ => by omega
  | k + 1, h, h0, h1, h2, h3, h4, h5 => by
    rw [cnB] at h
    have hb := cnB_b (f := f) (k := k)
    by_cases q : f k = true
    · rw [if_pos q] at h
      have hz := cnB_z (f := f) (k := k) (by omega)
      have e1 : i = k := by
        by_cases e : i = k
        · exact e
        · have := hz i h0 (by omega)
          rw [h2] at this
          cases this
      have e2 : j = k := by
        by_cases e : j = k
        · exact e
        · have := hz j h3 (by omega)
          rw [h5] at this
          cases this
      omega
    · rw [if_neg q] at h
      have e1 : i ≠ k := fun e => q (by rw [← e]; exact h2)
      have e2 : j ≠ k := fun e => q (by rw [← e]; exact h5)
      exact cnB_1 (k := k) (by omega) h0 (by omega) h2 h3 (by omega) h5
section RIN
variable {L : Nat} {V W X g h : AMem} {a b bt c d e f i j kd n p q r t w x : Int}
theorem opW_4 : opW V e 4 i = if opB V e i = true then 1 else 0 := by
  unfold opW opB
  simp only [decide_eq_true_eq, if_true]
theorem opW_5 : opW V e 5 i = V (20 + e) i := by simp [opW]
theorem opA_b : opA V e r = -1 ∨ (0 ≤ opA V e r ∧ opA V e r < V 1 (V 3 e) ∧ opB V e (opA V e r) = true ∧ V (10 + V 3 e) (opA V e r) = r) := by
  rcases whK_b (d := -1) (hit := fun i => opB V e i && decide (V (10 + V 3 e) i = r)) (k := (V 1 (V 3 e)).toNat) with q | q
  · exact Or.inl q.1
  · right
    have h2 := q.2.2
    simp only [Bool.and_eq_true, decide_eq_true_eq] at h2
    have h1 := q.2.1
    have h0 := q.1
    unfold opA
    exact ⟨h0, by omega, h2.1, h2.2⟩
theorem opA_p (hV : VaV V) (he0 : 0 ≤ e) (he1 : e < V 0 1) (h0 : 0 ≤ i) (h1 : i < V 1 (V 3 e)) (ho : opB V e i = true) : opA V e (V (10 + V 3 e) i) = i := by
  have hB := bOK_e hV he0 he1
  have hb := opA_b (V := V) (e := e) (r := V (10 + V 3 e) i)
  rcases whK_b (d := -1) (hit := fun j => opB V e j && decide (V (10 + V 3 e) j = V (10 + V 3 e) i)) (k := (V 1 (V 3 e)).toNat) with q | q
  · have := q.2 i h0 (by omega)
    simp [ho] at this
  · have h2 := q.2.2
    simp only [Bool.and_eq_true, decide_eq_true_eq] at h2
    exact bOK_d hB q.1 (by have := q.2.1; omega) h0 h1 h2.2
theorem opA_n (hn : ∀ i, 0 ≤ i → i < V 1 (V 3 e) → opB V e i = true → V (10 + V 3 e) i ≠ r) : opA V e r = -1 := by
  rcases opA_b (V := V) (e := e) (r := r) with q | q
  · exact q
  · exact absurd q.2.2.2 (hn _ q.1 q.2.1 q.2.2.1)
theorem sxI_b : sxI V e i = -1 ∨ (0 ≤ sxI V e i ∧ sxI V e i < V 1 (V 3 e) ∧ opB V e (sxI V e i) = true ∧ V (10 + V 3 e) (sxI V e i) = V (20 + e) i ∧ wtC V e (V (10 + V 3 e) i) = 1) := by
  unfold sxI
  split
  · rename_i q
    rcases opA_b (V := V) (e := e) (r := V (20 + e) i) with h | h
    · exact Or.inl h
    · exact Or.inr ⟨h.1, h.2.1, h.2.2.1, h.2.2.2, q⟩
  · exact Or.inl rfl
/-- the way through a ring -/
def sxK (V : AMem) (e p : Int) : Nat → Int
  | 0 => p
  | k + 1 => sxI V e (sxK V e p k)
theorem rgF_d (d : Nat) : ∀ (m t : Nat), (∃ n, t < n ∧ n ≤ t + m ∧ (sxK V e p n = p ∨ sxK V e p n < 0)) → rgF V e p (m + d) (sxK V e p t) (t + 1) = rgF V e p m (sxK V e p t) (t + 1)
  | 0, t, h => by
    obtain ⟨n, h0, h1, -⟩ := h
    omega
  | m + 1, t, h => by
    obtain ⟨n, h0, h1, h2⟩ := h
    rw [show m + 1 + d = (m + d) + 1 by omega, rgF, rgF]
    by_cases q1 : sxI V e (sxK V e p t) < 0
    · rw [if_pos q1, if_pos q1]
    · rw [if_neg q1, if_neg q1]
      by_cases q2 : sxI V e (sxK V e p t) = p
      · rw [if_pos q2, if_pos q2]
      · rw [if_neg q2, if_neg q2]
        have ih := rgF_d d m (t + 1) ⟨n, by
          by_cases e1 : n = t + 1
          · rw [e1] at h2
            rcases h2 with h2 | h2
            · exact absurd h2 q2
            · exact absurd h2 q1
          · omega, by omega, h2⟩
        rw [show ((t + 1 : Nat) : Int) = (t : Int) + 1 by omega] at ih
        exact ih
theorem sxI_i (hp0 : 0 ≤ i) (hp1 : i < V 1 (V 3 e)) (ho : opB V e i = true) (hj0 : 0 ≤ j) (hj1 : j < V 1 (V 3 e)) (hoj : opB V e j = true) (hs : 0 ≤ sxI V e i) (he : sxI V e i = sxI V e j) (hw : wtC V e (V (10 + V 3 e) (sxI V e i)) = 1) : i = j := by
  rcases sxI_b (V := V) (e := e) (i := i) with q | q
  · omega
  · rcases sxI_b (V := V) (e := e) (i := j) with q2 | q2
    · omega
    · have e1 := q.2.2.2.1
      have e2 := q2.2.2.2.1
      rw [← he] at e2
      unfold wtC at hw
      refine cnB_1 (f := wtF V e (V (10 + V 3 e) (sxI V e i))) (k := (V 1 (V 3 e)).toNat) (by omega) hp0 (by omega) ?_ hj0 (by omega) ?_
      · unfold wtF
        simp [ho, e1]
      · unfold wtF
        simp [hoj, e2]
theorem sxK_r (hp0 : 0 ≤ p) (hp1 : p < V 1 (V 3 e)) (ho : opB V e p = true) : ∃ n, 0 < n ∧ n ≤ (V 1 (V 3 e)).toNat ∧ (sxK V e p n = p ∨ sxK V e p n < 0) := by
  by_cases hx : ∃ n, 0 < n ∧ n ≤ (V 1 (V 3 e)).toNat ∧ (sxK V e p n = p ∨ sxK V e p n < 0)
  · exact hx
  · exfalso
    have ha : ∀ k, k ≤ (V 1 (V 3 e)).toNat → 0 ≤ sxK V e p k ∧ sxK V e p k < V 1 (V 3 e) ∧ opB V e (sxK V e p k) = true := by
      intro k hk
      cases k with
      | zero => exact ⟨hp0, hp1, ho⟩
      | succ k =>
        have hnn : ¬ sxK V e p (k + 1) < 0 := fun q => hx ⟨k + 1, by omega, hk, Or.inr q⟩
        rw [sxK] at hnn ⊢
        rcases sxI_b (V := V) (e := e) (i := sxK V e p k) with q | q
        · omega
        · exact ⟨q.1, q.2.1, q.2.2.1⟩
    obtain ⟨a, b, hab, hb, he⟩ := pig2 (V 1 (V 3 e)).toNat (fun k => (sxK V e p k).toNat) (fun k hk => by
      have := ha k (by omega)
      omega)
    have he2 : sxK V e p a = sxK V e p b := by
      have h1 := ha a (by omega)
      have h2 := ha b (by omega)
      omega
    have hback : ∀ a d, a + d ≤ (V 1 (V 3 e)).toNat → 0 < d → sxK V e p (a + d) = sxK V e p a → sxK V e p d = p := by
      intro a
      induction a with
      | zero =>
        intro d _ _ h
        rw [show 0 + d = d by omega] at h
        exact h
      | succ a ih =>
        intro d h1 h2 h3
        apply ih d (by omega) h2
        rw [show a + 1 + d = a + d + 1 by omega, sxK, sxK] at h3
        have p1 := ha (a + d) (by omega)
        have p2 := ha a (by omega)
        have p3 := ha (a + 1) (by omega)
        have p4 := ha (a + 1 + 1) (by omega)
        rw [sxK] at p3
        rw [sxK, sxK] at p4
        have hw : wtC V e (V (10 + V 3 e) (sxI V e (sxK V e p a))) = 1 := by
          rcases sxI_b (V := V) (e := e) (i := sxI V e (sxK V e p a)) with q | q
          · omega
          · exact q.2.2.2.2
        exact (sxI_i p2.1 p2.2.1 p2.2.2 p1.1 p1.2.1 p1.2.2 p3.1 h3.symm hw).symm
    exact hx ⟨b - a, by omega, by omega, Or.inl (hback a (b - a) (by omega) (by omega) (by rw [show a + (b - a) = b by omega]; exact he2.symm))⟩
theorem rgF_7 (hV : VaV V) (he0 : 0 ≤ e) (he1 : e < V 0 1) (hp0 : 0 ≤ p) (hp1 : p < V 1 (V 3 e)) (ho : opB V e p = true) : rgF V e p 7 p 1 = rgZ V e p := by
  have hn := edg_n hV he0 he1
  obtain ⟨n, n0, n1, n2⟩ := sxK_r hp0 hp1 ho
  have h := rgF_d (V := V) (e := e) (p := p) (7 - (V 1 (V 3 e)).toNat) (V 1 (V 3 e)).toNat 0 ⟨n, n0, by omega, n2⟩
  rw [show (V 1 (V 3 e)).toNat + (7 - (V 1 (V 3 e)).toNat) = 7 by omega] at h
  unfold rgZ
  rw [if_pos ho]
  exact h
theorem cM_wantedTimes (hV : VaV V) (hR : RfV V g) (he0 : 0 ≤ e) (he1 : e < V 0 1) (hQ : RfQ V e g) : jM_wantedTimes L e r g = some (wtC V e r, g) := by
  have hn := edg_n hV he0 he1
  rw [jM_wantedTimes_eq]
  unfold wtC
  refine lp (F := fun i => jM_wantedTimes_5 L e r (cnB (wtF V e r) i.toNat) i g) (n := V 1 (V 3 e)) ?_ ?_ 0 (Int.le_refl _) hn.1
  · intro i h2 h3 ih
    have hc := cnB_b (f := wtF V e r) (k := i.toNat)
    rw [cnB_s h2] at ih
    have hq := hQ i h2 h3
    rw [opW_4] at hq
    rw [jM_wantedTimes_5_eq, cM_manyOf hV hR he0 he1, bnd]
    dsimp only
    rw [if_neg (show ¬ V 1 (V 3 e) ≤ i by omega), if_pos (show 0 ≤ i ∧ i < 6 by omega), if_pos (show 0 ≤ i ∧ i < 6 by omega), iw_n (show 0 ≤ i + 1 by omega) (by omega), iw_n (show 0 ≤ cnB (wtF V e r) i.toNat + 0 by omega) (by omega), iw_n (show 0 ≤ cnB (wtF V e r) i.toNat + 1 by omega) (by omega)]
    have hf : wtF V e r i = (opB V e i && decide (V (20 + e) i = r)) := rfl
    rw [hf] at ih
    by_cases q : opB V e i = true
    · rw [if_pos q] at hq
      have h9 : g 149 i = V (20 + e) i := by rw [hq.2 (by omega), opW_5]
      rw [if_neg (show ¬ g 148 i = 0 by omega)]
      by_cases q2 : V (20 + e) i = r
      · rw [if_neg (show ¬ g 149 i ≠ r by rw [h9]; simp [q2])]
        rw [if_pos (by simp [q, q2])] at ih
        exact ih
      · rw [if_pos (show g 149 i ≠ r by rw [h9]; exact q2)]
        rw [if_neg (by simp [q2])] at ih
        exact ih
    · rw [if_neg q] at hq
      rw [if_pos hq.1]
      rw [if_neg (by simp [q])] at ih
      exact ih
  · rw [jM_wantedTimes_5_eq, cM_manyOf hV hR he0 he1, bnd]
    dsimp only
    rw [if_pos (Int.le_refl _)]
theorem cM_ring8z {x : AVal} : jM_ringOf_8 L e p i t 0 x g = some (0, g) := by
  rw [jM_ringOf_8_eq, if_pos rfl, if_pos rfl]
theorem cM_ring8 (hV : VaV V) (hR : RfV V g) (he0 : 0 ≤ e) (he1 : e < V 0 1) (hQ : RfQ V e g) (hp0 : 0 ≤ p) (hp1 : p < V 1 (V 3 e)) (hop : opB V e p = true) : ∀ (m : Nat) (i t : Int) (x : AVal), t + m = 7 → 0 ≤ t → 0 ≤ i → i < V 1 (V 3 e) → opB V e i = true → (t = 0 ∨ i ≠ p) → jM_ringOf_8 L e p i t 1 x g = some (rgF V e p m i (t + 1), g)
  | 0, i, t, x, ht, t0, i0, i1, ho, hc => by
    rw [jM_ringOf_8_eq, if_neg (by omega), if_neg (by omega), if_neg (by omega), if_pos (by omega), if_neg (by omega), if_pos (by omega), rgF]
  | m + 1, i, t, x, ht, t0, i0, i1, ho, hc => by
    have hn := edg_n hV he0 he1
    have hB := bOK_e hV he0 he1
    have hq := hQ i i0 i1
    rw [opW_4, if_pos ho, opW_5] at hq
    have key : (if 6 < t then (if (1 : Int) = 0 then (some (0, g)) else (if i ≠ p then (some ((0 : Int), g)) else (some (t, g)))) else (if 0 ≤ i ∧ i < 6 then (if g 148 i = 0 then (jM_ringOf_8 L e p i (iw (t + 1)) 0 (vI (-201)) g) else ((jM_parameterOf L e i g).bind (fun q10 => (jM_wantedTimes L e q10.1 q10.2).bind (fun q11 => if q11.1 ≠ 1 then (jM_ringOf_8 L e p i (iw (t + 1)) 0 (vI (-201)) q11.2) else (if 0 ≤ i ∧ i < 6 then ((jM_whoHas L e (q11.2 149 i) q11.2).bind (fun q14 => if q14.1 = (-201) then (jM_ringOf_8 L e p i (iw (t + 1)) 0 (vI q14.1) q14.2) else (jM_ringOf_8 L e p q14.1 (iw (t + 1)) 1 (vI q14.1) q14.2))) else none))))) else none)) = some (rgF V e p (m + 1) i (t + 1), g) := by
      rw [if_neg (by omega), if_pos (by omega), if_neg (show ¬ g 148 i = 0 by omega), cM_parameterOf hV hR he0 he1 i0 i1, bnd]
      dsimp only
      rw [cM_wantedTimes hV hR he0 he1 hQ, bnd]
      dsimp only
      rw [iw_n (show 0 ≤ t + 1 by omega) (by omega), rgF]
      by_cases q1 : wtC V e (V (10 + V 3 e) i) = 1
      · have hs : sxI V e i = opA V e (V (20 + e) i) := by
          unfold sxI
          rw [if_pos q1]
        rw [if_neg (by simp [q1]), if_pos (by omega), hq.2 (by omega), cM_whoHas hV hR he0 he1, bnd, hs]
        dsimp only
        have hw := whK_b (d := -201) (hit := fun j => decide (V (10 + V 3 e) j = V (20 + e) i)) (k := (V 1 (V 3 e)).toNat)
        change (whI V (V 3 e) (V 1 (V 3 e)) (V (20 + e) i) (-201) = -201 ∧ _) ∨ (0 ≤ whI V (V 3 e) (V 1 (V 3 e)) (V (20 + e) i) (-201) ∧ whI V (V 3 e) (V 1 (V 3 e)) (V (20 + e) i) (-201) < _ ∧ decide (V (10 + V 3 e) (whI V (V 3 e) (V 1 (V 3 e)) (V (20 + e) i) (-201)) = V (20 + e) i) = true) at hw
        generalize whI V (V 3 e) (V 1 (V 3 e)) (V (20 + e) i) (-201) = j at hw ⊢
        rcases hw with hw | hw
        · have ha : opA V e (V (20 + e) i) = -1 := opA_n (fun j j0 j1 _ q => by
            have := hw.2 j j0 (by omega)
            simp [q] at this)
          rw [if_pos hw.1, cM_ring8z, ha, if_pos (by omega)]
        · have hj := hw.2.2
          simp only [decide_eq_true_eq] at hj
          have j1 : j < V 1 (V 3 e) := by have := hw.2.1; omega
          rw [if_neg (by omega)]
          by_cases oj : opB V e j = true
          · have ha : opA V e (V (20 + e) i) = j := by
              rw [← hj]
              exact opA_p hV he0 he1 hw.1 j1 oj
            rw [ha, if_neg (by omega)]
            by_cases ej : j = p
            · rw [if_pos ej, jM_ringOf_8_eq, if_neg (by omega), if_neg (by omega), if_pos ej, if_neg (by omega), if_neg (by simp [ej])]
            · rw [if_neg ej]
              exact cM_ring8 hV hR he0 he1 hQ hp0 hp1 hop m j (t + 1) _ (by omega) (by omega) hw.1 j1 oj (Or.inr ej)
          · have ej : j ≠ p := fun q => oj (by rw [q]; exact hop)
            have ha : opA V e (V (20 + e) i) = -1 := opA_n (fun k k0 k1 ok q => by
              have : k = j := bOK_d hB k0 k1 hw.1 j1 (by rw [q, hj])
              rw [this] at ok
              exact oj ok)
            have hqj := hQ j hw.1 j1
            rw [opW_4, if_neg oj] at hqj
            rw [ha, if_pos (by omega), jM_ringOf_8_eq, if_neg (by omega), if_neg (by omega), if_neg ej]
            by_cases t6 : 6 < t + 1
            · rw [if_pos t6, if_neg (by omega), if_pos ej]
            · rw [if_neg t6, if_pos (by omega), if_pos hqj.1, cM_ring8z]
      · have hs : sxI V e i = -1 := by
          unfold sxI
          rw [if_neg q1]
        rw [if_pos q1, cM_ring8z, hs, if_pos (by omega)]
    rw [jM_ringOf_8_eq, if_neg (by omega)]
    by_cases tz : t = 0
    · rw [if_pos tz]
      exact key
    · rw [if_neg tz, if_neg (hc.resolve_left tz)]
      exact key
theorem cM_ringOf (hV : VaV V) (hR : RfV V g) (he0 : 0 ≤ e) (he1 : e < V 0 1) (hQ : RfQ V e g) (hp0 : 0 ≤ p) (hp1 : p < V 1 (V 3 e)) (hop : opB V e p = true) : jM_ringOf L e p g = some (rgZ V e p, g) := by
  rw [jM_ringOf_eq, cM_ring8 hV hR he0 he1 hQ hp0 hp1 hop 7 p 0 vU (by omega) (by omega) hp0 hp1 hop (Or.inl rfl), show (0 : Int) + 1 = 1 by rfl, rgF_7 hV he0 he1 hp0 hp1 hop]
end RIN
