/-! the class's handover -/
def Ho (L : Nat) (V : AMem) (e : Int) (g : AMem) : Prop := (kin (SH L) (g 116 0) = 20 ∧ aln (SH L) (g 116 0) = 6 ∧ g 116 0 < 115) ∧ (kin (SH L) (g 116 1) = 20 ∧ aln (SH L) (g 116 1) = 6 ∧ g 116 1 < 115) ∧ g 116 2 = V 1 (V 3 e) ∧ ∀ i, 0 ≤ i → i < V 1 (V 3 e) → g (g 116 0) i = V (10 + V 3 e) i ∧ g (g 116 1) i = V (20 + e) i
def ivV (V : AMem) (e k : Int) : Int := if V 1 (V 3 e) ≤ k % 6 then -1 else if V (20 + e) (k % 6) ≠ V (10 + V 3 e) (k % 6) then (if 6 ≤ k then V (20 + e) (k % 6) else V (10 + V 3 e) (k % 6)) else -1
def ivP (V : AMem) (e k l : Int) : Bool := decide (0 ≤ ivV V e k) && (decide (0 ≤ ivV V e l) && acB (ivV V e k) (ivV V e l))
def ivR (V : AMem) (e k : Int) : Bool := anB (ivP V e k) k.toNat
def ivC (V : AMem) (e : Int) : Bool := anB (ivR V e) 12
section HAN
variable {L : Nat} {V g h : AMem} {a b c e f i j k l p r t w x : Int}
theorem Ho_k (hH : Ho L V e g) (hk : ∀ a k, a < 115 ∨ a = 116 → h a k = g a k) : Ho L V e h := by
  obtain ⟨h0, h1, h2, h3⟩ := hH
  have e0 : h 116 0 = g 116 0 := hk _ _ (by omega)
  have e1 : h 116 1 = g 116 1 := hk _ _ (by omega)
  refine ⟨by rw [e0]; exact h0, by rw [e1]; exact h1, by rw [hk _ _ (by omega)]; exact h2, fun i i0 i1 => ?_⟩
  rw [e0, e1, hk _ _ (by omega), hk _ _ (by omega)]
  exact h3 i i0 i1
theorem cH_look (hV : VaV V) (hC : ClV V t g) (he0 : 0 ≤ e) (he1 : e < V 0 1) : ∃ h, jHo_look L (t + 2 + 2 * V 3 e) (t + 23 + 2 * e) g = some h ∧ (∀ a k, a ≠ 116 → h a k = g a k) ∧ Ho L V e h := by
  have h0 := hV.1
  have h1 := hV.2.1
  have ht := hC.1
  have hE2 := hV.2.2.2.2.2.1 e he0 he1
  have hE := hC.2.2.1.2.2 e he0 he1
  have hB := hC.2.2.1.2.1 _ hE2.2.1.1 hE2.2.1.2
  have kb : kin (SH L) (t + 2 + 2 * V 3 e) = 0 := (kG_b (kG' ht) (by omega) (by omega)).2
  have ke : kin (SH L) (t + 23 + 2 * e) = 2 := (kG_e (kG' ht) (by omega) (by omega)).2
  have n : ∀ a k, a ≠ 116 → up (up (up g 116 0 (t + 2 + 2 * V 3 e + 1)) 116 1 (t + 23 + 2 * e + 1)) 116 2 (V 1 (V 3 e)) a k = g a k := fun a k q => by rw [up_n (by omega), up_n (by omega), up_n (by omega)]
  have e0 : up (up (up g 116 0 (t + 2 + 2 * V 3 e + 1)) 116 1 (t + 23 + 2 * e + 1)) 116 2 (V 1 (V 3 e)) 116 0 = t + 2 + 2 * V 3 e + 1 := by rw [up_n (by omega), up_n (by omega), up_s]
  have e1 : up (up (up g 116 0 (t + 2 + 2 * V 3 e + 1)) 116 1 (t + 23 + 2 * e + 1)) 116 2 (V 1 (V 3 e)) 116 1 = t + 23 + 2 * e + 1 := by rw [up_n (by omega), up_s]
  refine ⟨_, ?_, n, ?_, ?_, ?_, fun i i0 i1 => ?_⟩
  · rw [jHo_look_eq L _ _ g kb ke, up_n (by omega), up_n (by omega), hB.1]
  · rw [e0]
    exact ⟨kB20 kb, (kB kb).2, by omega⟩
  · rw [e1]
    exact ⟨kE20 ke, (kE ke).2, by omega⟩
  · rw [up_s]
  · rw [e0, e1, n _ _ (by omega), n _ _ (by omega)]
    exact ⟨hB.2 i i0 i1, hE.2.2.2 i i0 i1⟩
theorem cH_isSet (hV : VaV V) (he0 : 0 ≤ e) (he1 : e < V 0 1) (hH : Ho L V e g) (h0 : 0 ≤ i) (h1 : i < V 1 (V 3 e)) : jHo_isSet L i g = some (if V (20 + e) i < 0 then 1 else 0, g) := by
  have hn := edg_n hV he0 he1
  rw [jHo_isSet_eq, if_pos hH.2.1.1, if_pos (by rw [hH.2.1.2.1]; omega), (hH.2.2.2 i h0 h1).2]
  by_cases q : V (20 + e) i < 0
  · rw [if_pos q, if_neg (by omega)]
  · rw [if_neg q, if_pos (by omega)]
theorem cH_isOpen (hV : VaV V) (he0 : 0 ≤ e) (he1 : e < V 0 1) (hH : Ho L V e g) (h0 : 0 ≤ i) (h1 : i < V 1 (V 3 e)) : jHo_isOpen L i g = some (if opB V e i = true then 1 else 0, g) := by
  have hn := edg_n hV he0 he1
  have ho := (hV.2.2.2.2.2.1 e he0 he1).2.2.2 i h0 h1
  have c0 : 0 ≤ i ∧ i < aln (SH L) (g 116 0) := by rw [hH.1.2.1]; omega
  have c1 : 0 ≤ i ∧ i < aln (SH L) (g 116 1) := by rw [hH.2.1.2.1]; omega
  have hg := hH.2.2.2 i h0 h1
  rw [jHo_isOpen_eq, if_pos hH.2.1.1, if_pos c1, if_pos hH.2.1.1, if_pos c1, if_pos hH.1.1, if_pos c0]
  unfold opB vMv
  simp only [decide_eq_true_eq, hg.1, hg.2]
  by_cases q : V (20 + e) i < 0
  · rw [if_pos q, if_neg (by omega)]
  · have := isRg_b (okA_r ho (by omega)).1
    rw [if_neg q]
    by_cases q2 : V (20 + e) i = V (10 + V 3 e) i
    · rw [if_pos q2, if_neg (fun h => h.1 q2)]
    · rw [if_neg q2, if_pos ⟨q2, by omega⟩]
theorem cH_involved (hV : VaV V) (he0 : 0 ≤ e) (he1 : e < V 0 1) (hH : Ho L V e g) (h0 : 0 ≤ k) (h1 : k < 12) : jHo_involved L k g = some (ivV V e k, g) := by
  have hn := edg_n hV he0 he1
  rw [jHo_involved_eq, tdv h0, sbm, iw_n (by omega) (by omega), hH.2.2.1]
  unfold ivV
  by_cases q : V 1 (V 3 e) ≤ k % 6
  · rw [if_pos q, if_pos q]
  · have c0 : 0 ≤ k % 6 ∧ k % 6 < aln (SH L) (g 116 0) := by rw [hH.1.2.1]; omega
    have c1 : 0 ≤ k % 6 ∧ k % 6 < aln (SH L) (g 116 1) := by rw [hH.2.1.2.1]; omega
    have hg := hH.2.2.2 (k % 6) (by omega) (by omega)
    rw [if_neg q, if_neg q, if_pos hH.2.1.1, if_pos c1, if_pos hH.1.1, if_pos c0, if_pos hH.2.1.1, if_pos c1, if_pos hH.1.1, if_pos c0]
    simp only [hg.1, hg.2]
    by_cases q2 : V (20 + e) (k % 6) = V (10 + V 3 e) (k % 6)
    · rw [if_neg (by simp [q2]), if_neg (by simp [q2])]
    · rw [if_pos q2, if_pos q2]
      by_cases q3 : 6 ≤ k
      · rw [if_pos q3, if_pos q3]
      · rw [if_neg q3, if_neg q3]
theorem ivV_b (hV : VaV V) (he0 : 0 ≤ e) (he1 : e < V 0 1) (h0 : 0 ≤ k) : -100 ≤ ivV V e k ∧ ivV V e k ≤ 319 := by
  unfold ivV
  split
  · omega
  · have hb := edg_b hV he0 he1 (i := k % 6) (by omega) (by omega)
    repeat' split
    all_goals omega
theorem cH_clear10 (hV : VaV V) (he0 : 0 ≤ e) (he1 : e < V 0 1) (hH : Ho L V e g) (h0 : 0 ≤ k) (h1 : k < 12) : ∀ (m : Nat) (l : Int) (x y : AVal), 0 ≤ l → l + m = k → anB (ivP V e k) l.toNat = false → (ivR V e k = true ∧ jHo_isClear_10 L k l x y g = some (0, g)) ∨ (ivR V e k = false ∧ ∃ u v w, jHo_isClear_10 L k l x y g = jHo_isClear_2 L (k + 1) u v w g)
  | 0, l, x, y, l0, l1, hf => by
    right
    refine ⟨?_, vI l, x, y, ?_⟩
    · unfold ivR
      rw [show k.toNat = l.toNat by omega]
      exact hf
    · rw [jHo_isClear_10_eq, if_pos (by omega), iw_n (by omega) (by omega)]
  | m + 1, l, x, y, l0, l1, hf => by
    have b1 := ivV_b hV he0 he1 h0
    have b2 := ivV_b hV he0 he1 l0
    have ih : ∀ x y, ivP V e k l = false → (ivR V e k = true ∧ jHo_isClear_10 L k (l + 1) x y g = some (0, g)) ∨ (ivR V e k = false ∧ ∃ u v w, jHo_isClear_10 L k (l + 1) x y g = jHo_isClear_2 L (k + 1) u v w g) := fun x y hp => cH_clear10 hV he0 he1 hH h0 h1 m (l + 1) x y (by omega) (by omega) (by rw [anB_s l0, hf, hp]; rfl)
    have hp : ivP V e k l = (decide (0 ≤ ivV V e k) && (decide (0 ≤ ivV V e l) && acB (ivV V e k) (ivV V e l))) := rfl
    rw [jHo_isClear_10_eq, if_neg (by omega), cH_involved hV he0 he1 hH h0 h1, bnd, cH_involved hV he0 he1 hH l0 (by omega), bnd, iw_n (by omega) (by omega)]
    dsimp only
    by_cases q1 : ivV V e k < 0
    · rw [if_pos q1]
      exact ih _ _ (by rw [hp, decide_eq_false (by omega)]; rfl)
    · rw [if_neg q1]
      by_cases q2 : ivV V e l < 0
      · rw [if_pos q2]
        exact ih _ _ (by rw [hp, decide_eq_false (show ¬ 0 ≤ ivV V e l by omega)]; simp)
      · rw [if_neg q2, cRg_acr (by omega) (by omega) (by omega) (by omega), bnd]
        dsimp only
        rw [ifz]
        by_cases q3 : acB (ivV V e k) (ivV V e l) = true
        · rw [if_pos q3]
          left
          refine ⟨?_, rfl⟩
          unfold ivR
          refine anB_t.mpr ⟨l, l0, by omega, ?_⟩
          rw [hp, q3, decide_eq_true (show 0 ≤ ivV V e k by omega), decide_eq_true (show 0 ≤ ivV V e l by omega)]
          rfl
        · rw [if_neg q3]
          exact ih _ _ (by rw [hp, Bool.eq_false_iff.mpr q3]; simp)
theorem cH_isClear0 (hV : VaV V) (he0 : 0 ≤ e) (he1 : e < V 0 1) (hH : Ho L V e g) : jHo_isClear L g = some (if ivC V e = true then 0 else 1, g) := by
  have hmain : ∀ (m : Nat) (k : Int) (x y z : AVal), 0 ≤ k → k + m = 12 → anB (ivR V e) k.toNat = false → jHo_isClear_2 L k x y z g = some (if ivC V e = true then 0 else 1, g) := by
    intro m
    induction m with
    | zero =>
      intro k x y z k0 k1 hf
      rw [jHo_isClear_2_eq, if_pos (by omega), if_neg]
      unfold ivC
      rw [show (12 : Nat) = k.toNat by omega, hf]
      simp
    | succ m ih =>
      intro k x y z k0 k1 hf
      rw [jHo_isClear_2_eq, if_neg (by omega)]
      rcases cH_clear10 hV he0 he1 hH k0 (by omega) k.toNat 0 y z (by omega) (by omega) rfl with q | ⟨q, u, v, w, q2⟩
      · rw [q.2, if_pos]
        unfold ivC
        exact anB_t.mpr ⟨k, k0, by omega, q.1⟩
      · rw [q2]
        exact ih (k + 1) u v w (by omega) (by omega) (by rw [anB_s k0, hf, q]; rfl)
  rw [jHo_isClear_eq]
  exact hmain 12 0 vU vU vU (by omega) (by omega) rfl
theorem acB_c : acB a b = acB b a := by
  unfold acB
  rw [shB_c, Bool.eq_iff_iff]
  simp only [Bool.and_eq_true, decide_eq_true_eq]
  constructor
  · rintro ⟨h1, h2⟩
    exact ⟨fun h => h1 h.symm, h2⟩
  · rintro ⟨h1, h2⟩
    exact ⟨fun h => h1 h.symm, h2⟩
theorem acB_r : acB a a = false := by
  unfold acB
  simp
/-- one that is moved, its region or its argument's -/
def ivQ (V : AMem) (e r : Int) : Prop := ∃ i, 0 ≤ i ∧ i < V 1 (V 3 e) ∧ vMv V e i = true ∧ 0 ≤ r ∧ (r = V (10 + V 3 e) i ∨ r = V (20 + e) i)
theorem ivQ_k (hV : VaV V) (he0 : 0 ≤ e) (he1 : e < V 0 1) : ivQ V e r ↔ ∃ k, 0 ≤ k ∧ k < 12 ∧ ivV V e k = r ∧ 0 ≤ r := by
  have hn := edg_n hV he0 he1
  unfold ivQ ivV vMv
  constructor
  · rintro ⟨i, i0, i1, i2, i3, i4⟩
    simp only [decide_eq_true_eq] at i2
    rcases i4 with i4 | i4
    · refine ⟨i, i0, by omega, ?_, i3⟩
      rw [show i % 6 = i by omega, if_neg (by omega), if_pos i2, if_neg (by omega)]
      exact i4.symm
    · refine ⟨i + 6, by omega, by omega, ?_, i3⟩
      rw [show (i + 6) % 6 = i by omega, if_neg (by omega), if_pos i2, if_pos (by omega)]
      exact i4.symm
  · rintro ⟨k, k0, k1, k2, k3⟩
    by_cases q : V 1 (V 3 e) ≤ k % 6
    · rw [if_pos q] at k2
      omega
    · rw [if_neg q] at k2
      by_cases q2 : V (20 + e) (k % 6) = V (10 + V 3 e) (k % 6)
      · rw [if_neg (by simp [q2])] at k2
        omega
      · rw [if_pos q2] at k2
        refine ⟨k % 6, by omega, by omega, by simp [q2], k3, ?_⟩
        by_cases q3 : 6 ≤ k
        · rw [if_pos q3] at k2
          exact Or.inr k2.symm
        · rw [if_neg q3] at k2
          exact Or.inl k2.symm
theorem ivC_c (hV : VaV V) (he0 : 0 ≤ e) (he1 : e < V 0 1) : ivC V e = true ↔ ∃ r s, ivQ V e r ∧ ivQ V e s ∧ acB r s = true := by
  unfold ivC
  rw [anB_t]
  constructor
  · rintro ⟨k, k0, k1, hk⟩
    unfold ivR at hk
    obtain ⟨l, l0, l1, hl⟩ := anB_t.mp hk
    unfold ivP at hl
    simp only [Bool.and_eq_true, decide_eq_true_eq] at hl
    exact ⟨_, _, (ivQ_k hV he0 he1).mpr ⟨k, k0, by omega, rfl, hl.1⟩, (ivQ_k hV he0 he1).mpr ⟨l, l0, by omega, rfl, hl.2.1⟩, hl.2.2⟩
  · rintro ⟨r, s, hr, hs, hac⟩
    obtain ⟨k, k0, k1, k2, k3⟩ := (ivQ_k hV he0 he1).mp hr
    obtain ⟨l, l0, l1, l2, l3⟩ := (ivQ_k hV he0 he1).mp hs
    rcases Int.lt_trichotomy k l with q | q | q
    · refine ⟨l, l0, by omega, ?_⟩
      unfold ivR
      refine anB_t.mpr ⟨k, k0, by omega, ?_⟩
      unfold ivP
      rw [k2, l2, acB_c, hac, decide_eq_true k3, decide_eq_true l3]
      rfl
    · rw [q] at k2
      rw [← k2, ← l2, acB_r] at hac
      cases hac
    · refine ⟨k, k0, by omega, ?_⟩
      unfold ivR
      refine anB_t.mpr ⟨l, l0, by omega, ?_⟩
      unfold ivP
      rw [k2, l2, hac, decide_eq_true k3, decide_eq_true l3]
      rfl
theorem acR_c (hV : VaV V) (he0 : 0 ≤ e) (he1 : e < V 0 1) : acR V e r = true ↔ ∃ s, ivQ V e s ∧ acB s r = true := by
  unfold acR
  rw [anB_t]
  constructor
  · rintro ⟨i, i0, i1, hi⟩
    have hb := edg_b hV he0 he1 i0 (show i < V 1 (V 3 e) by omega)
    unfold acF at hi
    simp only [Bool.and_eq_true, Bool.or_eq_true, decide_eq_true_eq] at hi
    rcases hi.2 with q | q
    · exact ⟨_, ⟨i, i0, by omega, hi.1, by omega, Or.inl rfl⟩, q⟩
    · exact ⟨_, ⟨i, i0, by omega, hi.1, by omega, Or.inr rfl⟩, q.2⟩
  · rintro ⟨s, ⟨i, i0, i1, i2, i3, i4⟩, hs⟩
    have ho := (hV.2.2.2.2.2.1 e he0 he1).2.2.2 i i0 i1
    refine ⟨i, i0, by omega, ?_⟩
    unfold acF
    simp only [Bool.and_eq_true, Bool.or_eq_true, decide_eq_true_eq]
    refine ⟨i2, ?_⟩
    rcases i4 with i4 | i4
    · rw [i4] at hs
      exact Or.inl hs
    · rw [i4] at hs
      have := isRg_b (okA_r ho (by omega)).1
      exact Or.inr ⟨by omega, hs⟩
theorem clB_iv (hV : VaV V) (he0 : 0 ≤ e) (he1 : e < V 0 1) : clB V e = !(ivC V e) := by
  unfold clB
  congr 1
  rw [Bool.eq_iff_iff, ivC_c hV he0 he1, anB_t]
  constructor
  · rintro ⟨i, i0, i1, hi⟩
    have hb := edg_b hV he0 he1 i0 (show i < V 1 (V 3 e) by omega)
    unfold clF at hi
    simp only [Bool.and_eq_true, Bool.or_eq_true, decide_eq_true_eq] at hi
    rcases hi.2 with q | q
    · obtain ⟨s, s1, s2⟩ := (acR_c hV he0 he1).mp q
      exact ⟨s, _, s1, ⟨i, i0, by omega, hi.1, by omega, Or.inl rfl⟩, s2⟩
    · obtain ⟨s, s1, s2⟩ := (acR_c hV he0 he1).mp q.2
      exact ⟨s, _, s1, ⟨i, i0, by omega, hi.1, q.1, Or.inr rfl⟩, s2⟩
  · rintro ⟨s, r, hs, ⟨i, i0, i1, i2, i3, i4⟩, hac⟩
    refine ⟨i, i0, by omega, ?_⟩
    unfold clF
    simp only [Bool.and_eq_true, Bool.or_eq_true, decide_eq_true_eq]
    have hq := (acR_c (r := r) hV he0 he1).mpr ⟨s, hs, hac⟩
    refine ⟨i2, ?_⟩
    rcases i4 with i4 | i4
    · rw [i4] at hq
      exact Or.inl hq
    · rw [i4] at hq
      exact Or.inr ⟨by omega, hq⟩
theorem cH_isClear (hV : VaV V) (he0 : 0 ≤ e) (he1 : e < V 0 1) (hH : Ho L V e g) : jHo_isClear L g = some (if clB V e = true then 1 else 0, g) := by
  rw [cH_isClear0 hV he0 he1 hH, clB_iv hV he0 he1]
  cases ivC V e <;> rfl
theorem cX_isClear (hV : VaV V) (hC : ClV V t g) (he0 : 0 ≤ e) (he1 : e < V 0 1) : ∃ h, jX_isClear L e g = some (if clB V e = true then 1 else 0, h) ∧ (∀ a k, a ≠ 116 → h a k = g a k) ∧ Ho L V e h := by
  have h0 := hV.1
  have h1 := hV.2.1
  have ht := hC.1
  have e20 := hC.2.1.1
  subst e20
  have hE2 := hV.2.2.2.2.2.1 e he0 he1
  have hE := hC.2.2.1.2.2 e he0 he1
  have c16 : 0 ≤ e ∧ e < 16 := by omega
  have c10 : 0 ≤ V 3 e ∧ V 3 e < 10 := by omega
  obtain ⟨h, a1, a2, a3⟩ := cH_look (L := L) hV hC he0 he1
  refine ⟨h, ?_, a2, a3⟩
  rw [jX_isClear_eq, if_pos (kG' ht), if_pos c16]
  simp only [hE.2.1]
  rw [if_pos c10, if_pos (kG' ht), if_pos c16, a1, bnd, cH_isClear hV he0 he1 a3, bnd]
  simp only [b2b, if_true]
end HAN
