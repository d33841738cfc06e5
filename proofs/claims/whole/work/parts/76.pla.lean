/-! the class's plan: its rows -/
def PlW (L : Nat) (V : AMem) (e kd : Int) (W : AMem) (q : Int) (g : AMem) : Prop := (g q 3 = W 0 0 ∧ g q 4 = kd ∧ g q 6 = V 1 (V 3 e) ∧ g q 9 = opC W (V 1 (V 3 e))) ∧
  (kin (SH L) (g q 5) = 20 ∧ aln (SH L) (g q 5) = 6 ∧ g q 5 < 115 ∧ ∀ i, 0 ≤ i → i < V 1 (V 3 e) → g (g q 5) i = V (10 + V 3 e) i) ∧
  (∀ k, 0 ≤ k → k < W 0 0 → g (q + 1) k = W 1 k ∧ g (q + 2) k = W 2 k ∧ g (q + 3) k = W 3 k) ∧
  ∀ i, 0 ≤ i → i < V 1 (V 3 e) → g (q + 6) i = W 4 i ∧ g (q + 5) i = W 5 i
def Pf (q : Int) (g g' : AMem) : Prop := ∀ a k, ¬ (q ≤ a ∧ a ≤ q + 6) → g' a k = g a k
section PLA
variable {L : Nat} {V W g h : AMem} {a b c d e f i j k kd l n p q r s t w x : Int}
theorem Pf_r : Pf q g g := fun _ _ _ => rfl
theorem Pf_t {j : AMem} (h1 : Pf q g h) (h2 : Pf q h j) : Pf q g j := fun a k c => by rw [h2 a k c, h1 a k c]
theorem Pf_u (h1 : Pf q g h) (h2 : q ≤ a ∧ a ≤ q + 6) : Pf q g (up h a k x) := fun a' k' c => by rw [up_n (by omega), h1 a' k' c]
theorem Pf_c (hq : q = 118 ∨ q = 125) (h1 : Pf q g h) : Cs g h := fun a k c => h1 a k (by omega)
theorem Ho_p (hq : q = 118 ∨ q = 125) (hH : Ho L V e g) (hS : Pf q g h) : Ho L V e h := Ho_k hH (fun a k c => hS a k (by omega))
theorem cP_add (hq : q = 118 ∨ q = 125) (hP : PlW L V e kd W q g) (h0 : 0 ≤ W 0 0) (h9 : W 0 0 < 9) : ∃ g', jPl_add L q s t f g = some g' ∧ PlW L V e kd (pAdd W s t f) q g' ∧ Pf q g g' := by
  obtain ⟨⟨p1, p2, p3, p4⟩, ⟨p5, p6, p7, p8⟩, p9, p10⟩ := hP
  have c9 : 0 ≤ W 0 0 ∧ W 0 0 < 9 := ⟨h0, h9⟩
  have n1 : ∀ x, up g (q + 1) (W 0 0) x q 3 = W 0 0 := fun x => by rw [up_n (by omega), p1]
  have n2 : ∀ x y, up (up g (q + 1) (W 0 0) x) (q + 2) (W 0 0) y q 3 = W 0 0 := fun x y => by rw [up_n (by omega), n1]
  have n3 : ∀ x y z, up (up (up g (q + 1) (W 0 0) x) (q + 2) (W 0 0) y) (q + 3) (W 0 0) z q 3 = W 0 0 := fun x y z => by rw [up_n (by omega), n2]
  refine ⟨up (up (up (up g (q + 1) (W 0 0) s) (q + 2) (W 0 0) t) (q + 3) (W 0 0) f) q 3 (W 0 0 + 1), ?_, ?_, Pf_u (Pf_u (Pf_u (Pf_u Pf_r (by omega)) (by omega)) (by omega)) (by omega)⟩
  · rw [jPl_add_eq L q s t f g (kP' hq)]
    simp only [p1, n1, n2, n3]
    rw [if_neg (by omega), if_pos c9, if_pos c9, if_pos c9, iw_n (by omega) (by omega)]
  · obtain ⟨G, hG⟩ : ∃ G, G = up (up (up (up g (q + 1) (W 0 0) s) (q + 2) (W 0 0) t) (q + 3) (W 0 0) f) q 3 (W 0 0 + 1) := ⟨_, rfl⟩
    have m : ∀ a k, ¬ (a = q ∧ k = 3) → ¬ ((a = q + 1 ∨ a = q + 2 ∨ a = q + 3) ∧ k = W 0 0) → G a k = g a k := fun a k c1 c2 => by rw [hG, up_n (by omega), up_n (by omega), up_n (by omega), up_n (by omega)]
    have e5 : G q 5 = g q 5 := m _ _ (by omega) (by omega)
    rw [← hG]
    have w4 : ∀ k, pAdd W s t f 4 k = W 4 k := fun k => pA_4
    have w5 : ∀ k, pAdd W s t f 5 k = W 5 k := fun k => pA_5
    refine ⟨⟨?_, ?_, ?_, ?_⟩, ⟨?_, ?_, ?_, fun i i0 i1 => ?_⟩, fun k k0 k1 => ?_, fun i i0 i1 => ?_⟩
    · rw [pA_0, hG, up_s]
    · rw [m _ _ (by omega) (by omega)]; exact p2
    · rw [m _ _ (by omega) (by omega)]; exact p3
    · rw [m _ _ (by omega) (by omega), p4, opC_e w4]
    · rw [e5]; exact p5
    · rw [e5]; exact p6
    · rw [e5]; exact p7
    · rw [e5, m _ _ (by omega) (by omega)]; exact p8 i i0 i1
    · rw [pA_0] at k1
      by_cases c : k = W 0 0
      · rw [c, hG]
        refine ⟨?_, ?_, ?_⟩
        · rw [up_n (by omega), up_n (by omega), up_n (by omega), up_s]
          simp [pAdd]
        · rw [up_n (by omega), up_n (by omega), up_s]
          simp [pAdd]
        · rw [up_n (by omega), up_s]
          simp [pAdd]
      · have := p9 k k0 (by omega)
        rw [m _ _ (by omega) (by omega), m _ _ (by omega) (by omega), m _ _ (by omega) (by omega)]
        simp [pAdd, c]
        exact this
    · rw [w4, w5, m _ _ (by omega) (by omega), m _ _ (by omega) (by omega)]
      exact p10 i i0 i1
theorem cP_close (hV : VaV V) (he0 : 0 ≤ e) (he1 : e < V 0 1) (hq : q = 118 ∨ q = 125) (hP : PlW L V e kd W q g) (hi0 : 0 ≤ i) (hi1 : i < V 1 (V 3 e)) (ho : W 4 i ≠ 0) : ∃ g', jPl_close L q i g = some g' ∧ PlW L V e kd (up W 4 i 0) q g' ∧ Pf q g g' := by
  have hn := edg_n hV he0 he1
  obtain ⟨⟨p1, p2, p3, p4⟩, ⟨p5, p6, p7, p8⟩, p9, p10⟩ := hP
  have hc : opC (up W 4 i 0) (V 1 (V 3 e)) = opC W (V 1 (V 3 e)) - 1 := opC_c hi0 hi1 ho up_s (fun j c => up_n (by omega))
  have hb := cnB_b (f := fun i => decide (W 4 i ≠ 0)) (k := (V 1 (V 3 e)).toNat)
  have hb2 : 0 ≤ opC W (V 1 (V 3 e)) ∧ opC W (V 1 (V 3 e)) ≤ 6 := by
    unfold opC
    omega
  refine ⟨up (up g (q + 6) i 0) q 9 (opC W (V 1 (V 3 e)) - 1), ?_, ?_, Pf_u (Pf_u Pf_r (by omega)) (by omega)⟩
  · rw [jPl_close_eq L q i g (kP' hq), if_pos ⟨by omega, Or.inl rfl⟩, up_n (by omega), p4, iw_s (by omega)]
  · have m : ∀ a k, ¬ (a = q ∧ k = 9) → ¬ (a = q + 6 ∧ k = i) → up (up g (q + 6) i 0) q 9 (opC W (V 1 (V 3 e)) - 1) a k = g a k := fun a k c1 c2 => by rw [up_n (by omega), up_n (by omega)]
    refine ⟨⟨?_, ?_, ?_, ?_⟩, ⟨?_, ?_, ?_, fun i i0 i1 => ?_⟩, fun k k0 k1 => ?_, fun j j0 j1 => ?_⟩
    · rw [m _ _ (by omega) (by omega), up_n (by omega)]; exact p1
    · rw [m _ _ (by omega) (by omega)]; exact p2
    · rw [m _ _ (by omega) (by omega)]; exact p3
    · rw [up_s, hc]
    · rw [m _ _ (by omega) (by omega)]; exact p5
    · rw [m _ _ (by omega) (by omega)]; exact p6
    · rw [m _ _ (by omega) (by omega)]; exact p7
    · rw [m q 5 (by omega) (by omega), m _ _ (by omega) (by omega)]; exact p8 i i0 i1
    · rw [up_n (by omega)] at k1
      rw [m _ _ (by omega) (by omega), m _ _ (by omega) (by omega), m _ _ (by omega) (by omega), up_n (by omega), up_n (by omega), up_n (by omega)]
      exact p9 k k0 k1
    · rw [m (q + 5) _ (by omega) (by omega), up_n (show (5 : Int) ≠ 4 ∨ j ≠ i by omega)]
      refine ⟨?_, (p10 j j0 j1).2⟩
      by_cases c : j = i
      · rw [c, up_n (by omega), up_s, up_s]
      · rw [m _ _ (by omega) (by omega), up_n (by omega)]
        exact (p10 j j0 j1).1
theorem cP_isWanted (hV : VaV V) (he0 : 0 ≤ e) (he1 : e < V 0 1) (hq : q = 118 ∨ q = 125) (hP : PlW L V e kd W q g) : jPl_isWanted L q r g = some (if wnB W (V 1 (V 3 e)) r = true then 1 else 0, g) := by
  have hn := edg_n hV he0 he1
  rw [jPl_isWanted_eq L q r g (kP' hq)]
  have hmain : ∀ (m : Nat) (i : Int), 0 ≤ i → i + m = V 1 (V 3 e) → anB (fun i => decide (W 4 i ≠ 0) && decide (W 5 i = r)) i.toNat = false → jPl_isWanted_2 L q r i g = some (if wnB W (V 1 (V 3 e)) r = true then 1 else 0, g) := by
    intro m
    induction m with
    | zero =>
      intro i i0 i1 hf
      rw [jPl_isWanted_2_eq L q r i g (kP' hq), hP.1.2.2.1, if_pos (by omega), if_neg]
      unfold wnB
      rw [show (V 1 (V 3 e)).toNat = i.toNat by omega, hf]
      simp
    | succ m ih =>
      intro i i0 i1 hf
      have hi := hP.2.2.2 i i0 (by omega)
      have c6 : 0 ≤ i ∧ i < 6 := by omega
      rw [jPl_isWanted_2_eq L q r i g (kP' hq), hP.1.2.2.1, if_neg (by omega), if_pos c6, if_pos c6, iw_n (by omega) (by omega)]
      simp only [hi.1, hi.2]
      by_cases c1 : W 4 i = 0
      · rw [if_pos c1]
        exact ih (i + 1) (by omega) (by omega) (by rw [anB_s i0, hf]; simp [c1])
      · rw [if_neg c1]
        by_cases c2 : W 5 i = r
        · rw [if_neg (show ¬ W 5 i ≠ r by simp [c2]), if_pos (wnB_t.mpr ⟨i, i0, by omega, c1, c2⟩)]
        · rw [if_pos c2]
          exact ih (i + 1) (by omega) (by omega) (by rw [anB_s i0, hf]; simp [c2])
  exact hmain (V 1 (V 3 e)).toNat 0 (by omega) (by omega) rfl
/-- the class's least one, told as the reference tells it -/
def loM (x : Int) : Int := if x = -201 then -1 else x
theorem loK_c {may : Int → Bool} {k1 k2 : Int → Int} {n : Int} (hk : ∀ i j, 0 ≤ i → i < n → 0 ≤ j → j < n → (k1 i < k1 j ↔ k2 i < k2 j)) : ∀ {m : Nat}, (m : Int) ≤ n → loK (-1) may k1 m = loM (loK (-201) may k2 m)
  | 0, _ => by simp [loK, loM]
  | m + 1, hm => by
    have ih := loK_c (may := may) hk (m := m) (by omega)
    have hb := loK_b (d := -201) (may := may) (key := k2) (k := m)
    rw [loK, loK, ih]
    generalize loK (-201) may k2 m = x at hb ⊢
    by_cases hx : x = -201
    · have e1 : loM x = -1 := by unfold loM; rw [if_pos hx]
      rw [e1]
      by_cases hmy : may m = true
      · rw [if_pos ⟨hmy, Or.inl rfl⟩, if_pos ⟨hmy, Or.inl hx⟩]
        unfold loM
        rw [if_neg (by omega)]
      · rw [if_neg (fun h => hmy h.1), if_neg (fun h => hmy h.1), e1]
    · have hb2 := hb.resolve_left hx
      have e1 : loM x = x := by unfold loM; rw [if_neg hx]
      have hkk := hk m x (by omega) (by omega) hb2.1 (by omega)
      rw [e1]
      by_cases hc : may m = true ∧ k1 m < k1 x
      · rw [if_pos ⟨hc.1, Or.inr hc.2⟩, if_pos ⟨hc.1, Or.inr (hkk.mp hc.2)⟩]
        unfold loM
        rw [if_neg (by omega)]
      · rw [if_neg (fun h => hc ⟨h.1, h.2.resolve_left (by omega)⟩), if_neg (fun h => hc ⟨h.1, hkk.mpr (h.2.resolve_left hx)⟩), e1]
theorem cP_leastOpen (hV : VaV V) (he0 : 0 ≤ e) (he1 : e < V 0 1) (hq : q = 118 ∨ q = 125) (hP : PlW L V e kd W q g) (u : Bool) : jPl_leastOpen L q (if u = true then 1 else 0) g = some (loM (loI V W (V 3 e) u), g) := by
  have hn := edg_n hV he0 he1
  have hB := bOK_e hV he0 he1
  obtain ⟨z, hz⟩ : ∃ z, z = (if u = true then (1 : Int) else 0) := ⟨_, rfl⟩
  have hcv : loM (loI V W (V 3 e) u) = loK (-1) (myB V W (V 3 e) (V 1 (V 3 e)) u) (fun i => V (10 + V 3 e) i) (V 1 (V 3 e)).toNat := (loK_c (n := V 1 (V 3 e)) (fun i j i0 i1 j0 j1 => bOK_o hB i0 i1 j0 j1) (by omega)).symm
  rw [← hz, hcv, jPl_leastOpen_eq L q z g (kP' hq)]
  refine lpx (F := fun i w => jPl_leastOpen_4 L q z (loK (-1) (myB V W (V 3 e) (V 1 (V 3 e)) u) (fun i => V (10 + V 3 e) i) i.toNat) i w g) (I := fun _ _ => True) (P := fun o => o = some (loK (-1) (myB V W (V 3 e) (V 1 (V 3 e)) u) (fun i => V (10 + V 3 e) i) (V 1 (V 3 e)).toNat, g)) (n := V 1 (V 3 e)) ?_ ?_ 0 vU (Int.le_refl _) hn.1 trivial
  · intro i w h2 h3 _ ih
    have ih := fun w => ih w trivial
    rw [loK_s h2] at ih
    have hl := loK_b (d := -1) (may := myB V W (V 3 e) (V 1 (V 3 e)) u) (key := fun i => V (10 + V 3 e) i) (k := i.toNat)
    generalize loK (-1) (myB V W (V 3 e) (V 1 (V 3 e)) u) (fun i => V (10 + V 3 e) i) i.toNat = lo at ih hl ⊢
    have hm : myB V W (V 3 e) (V 1 (V 3 e)) u i = (decide (W 4 i ≠ 0) && !(u && wnB W (V 1 (V 3 e)) (V (10 + V 3 e) i))) := rfl
    rw [hm] at ih
    have c6 : 0 ≤ i ∧ i < 6 := by omega
    have ca : 0 ≤ i ∧ i < aln (SH L) (g q 5) := by rw [hP.2.1.2.1]; omega
    have hi := hP.2.2.2 i h2 h3
    have hpi := hP.2.1.2.2.2 i h2 h3
    have hcmp : ∀ X Y : AVal, (if lo < 0 then (jPl_leastOpen_4 L q z i (i + 1) X g) else (if kin (SH L) (g q 5) = 20 then (if 0 ≤ i ∧ i < aln (SH L) (g q 5) then (if kin (SH L) (g q 5) = 20 then (if 0 ≤ lo ∧ lo < aln (SH L) (g q 5) then (if g (g q 5) lo ≤ g (g q 5) i then (jPl_leastOpen_4 L q z lo (i + 1) Y g) else (jPl_leastOpen_4 L q z i (i + 1) X g)) else none) else none) else none) else none)) = if lo = -1 ∨ V (10 + V 3 e) i < V (10 + V 3 e) lo then jPl_leastOpen_4 L q z i (i + 1) X g else jPl_leastOpen_4 L q z lo (i + 1) Y g := by
      intro X Y
      by_cases hlo : lo = -1
      · rw [if_pos (by omega), if_pos (Or.inl hlo)]
      · have hl2 := hl.resolve_left hlo
        have hpl := hP.2.1.2.2.2 lo hl2.1 (by omega)
        rw [if_neg (by omega), if_pos hP.2.1.1, if_pos ca, if_pos hP.2.1.1, if_pos (by rw [hP.2.1.2.1]; omega)]
        by_cases hc : V (10 + V 3 e) i < V (10 + V 3 e) lo
        · rw [if_neg (by omega), if_pos (Or.inr hc)]
        · rw [if_pos (by omega), if_neg (by omega)]
    rw [jPl_leastOpen_4_eq L q z lo i w g (kP' hq), hP.1.2.2.1, if_neg (by omega), if_pos c6, iw_n (by omega) (by omega)]
    by_cases h4 : W 4 i = 0
    · rw [if_pos (show g (q + 6) i = 0 by rw [hi.1]; exact h4)]
      rw [if_neg (by simp [h4])] at ih
      exact ih _
    · rw [if_neg (show ¬ g (q + 6) i = 0 by rw [hi.1]; exact h4)]
      cases u
      · have hz : z = 0 := by rw [hz]; rfl
        rw [if_pos hz, hcmp]
        by_cases hc : lo = -1 ∨ V (10 + V 3 e) i < V (10 + V 3 e) lo
        · rw [if_pos hc]
          rw [if_pos ⟨by simp [h4], hc⟩] at ih
          exact ih _
        · rw [if_neg hc]
          rw [if_neg (fun h => hc h.2)] at ih
          exact ih _
      · have hz : z = 1 := by rw [hz]; rfl
        rw [if_neg (by omega), if_pos hP.2.1.1, if_pos ca, hpi, cP_isWanted hV he0 he1 hq hP, bnd]
        dsimp only
        rw [ifn]
        by_cases h7 : wnB W (V 1 (V 3 e)) (V (10 + V 3 e) i) = true
        · rw [if_pos h7]
          rw [if_neg (by simp [h7])] at ih
          exact ih _
        · rw [if_neg h7, hcmp]
          by_cases hc : lo = -1 ∨ V (10 + V 3 e) i < V (10 + V 3 e) lo
          · rw [if_pos hc]
            rw [if_pos ⟨by simp [h4, h7], hc⟩] at ih
            exact ih _
          · rw [if_neg hc]
            rw [if_neg (fun h => hc h.2)] at ih
            exact ih _
  · intro w _
    rw [jPl_leastOpen_4_eq L q z _ _ w g (kP' hq), hP.1.2.2.1, if_pos (Int.le_refl _)]
theorem cP_lies (hV : VaV V) (he0 : 0 ≤ e) (he1 : e < V 0 1) (hq : q = 118 ∨ q = 125) (hP : PlW L V e kd W q g) : ∃ g', jPl_moveWhatLies L q f t g = some g' ∧ PlW L V e kd (pLie W f t) q g' ∧ Pf q g g' := by
  have hn := edg_n hV he0 he1
  obtain ⟨⟨p1, p2, p3, p4⟩, ⟨p5, p6, p7, p8⟩, p9, p10⟩ := hP
  rw [jPl_moveWhatLies_eq L q f t g (kP' hq)]
  refine lpx (F := fun i h => jPl_moveWhatLies_2 L q f t i h) (I := fun i h => (∀ a k, a ≠ q + 5 → h a k = g a k) ∧ ∀ k, h (q + 5) k = if 0 ≤ k ∧ k < i ∧ g (q + 5) k = f then t else g (q + 5) k) (P := fun o => ∃ g', o = some g' ∧ PlW L V e kd (pLie W f t) q g' ∧ Pf q g g') (n := V 1 (V 3 e)) ?_ ?_ 0 g (Int.le_refl _) hn.1 ⟨fun a k _ => rfl, fun k => by rw [if_neg (by omega)]⟩
  · intro i h h2 h3 hI ih
    have c6 : 0 ≤ i ∧ i < 6 := by omega
    have e1 : h (q + 5) i = g (q + 5) i := by rw [hI.2, if_neg (by omega)]
    have e6 : h q 6 = V 1 (V 3 e) := by rw [hI.1 _ _ (by omega)]; exact p3
    rw [jPl_moveWhatLies_2_eq L q f t i h (kP' hq), e6, if_neg (by omega), if_pos c6, if_pos c6, if_pos c6, if_pos c6, iw_n (show 0 ≤ i + 1 by omega) (by omega)]
    by_cases c : g (q + 5) i = f
    · rw [if_neg (show ¬ h (q + 5) i ≠ f by rw [e1]; simp [c])]
      refine ih _ ⟨fun a k qa => by rw [up_n (by omega), hI.1 a k qa], fun k => ?_⟩
      by_cases q2 : k = i
      · rw [q2, up_s, if_pos ⟨h2, by omega, c⟩]
      · rw [up_n (by omega), hI.2 k]
        by_cases q4 : 0 ≤ k ∧ k < i ∧ g (q + 5) k = f
        · rw [if_pos q4, if_pos ⟨by omega, by omega, q4.2.2⟩]
        · rw [if_neg q4, if_neg (fun q5 => q4 ⟨by omega, by omega, q5.2.2⟩)]
    · rw [if_pos (show h (q + 5) i ≠ f by rw [e1]; exact c)]
      refine ih _ ⟨fun a k qa => by rw [up_n (by omega), hI.1 a k qa], fun k => ?_⟩
      by_cases q2 : k = i
      · rw [q2, up_s, e1, if_neg (fun q5 => c q5.2.2)]
      · rw [up_n (by omega), hI.2 k]
        by_cases q4 : 0 ≤ k ∧ k < i ∧ g (q + 5) k = f
        · rw [if_pos q4, if_pos ⟨by omega, by omega, q4.2.2⟩]
        · rw [if_neg q4, if_neg (fun q5 => q4 ⟨by omega, by omega, q5.2.2⟩)]
  · intro h hI
    have e6 : h q 6 = V 1 (V 3 e) := by rw [hI.1 _ _ (by omega)]; exact p3
    have e5 : h q 5 = g q 5 := hI.1 _ _ (by omega)
    refine ⟨h, ?_, ⟨⟨?_, ?_, e6, ?_⟩, ⟨by rw [e5]; exact p5, by rw [e5]; exact p6, by rw [e5]; exact p7, fun i i0 i1 => ?_⟩, fun k k0 k1 => ?_, fun i i0 i1 => ?_⟩, fun a k c => hI.1 a k (by omega)⟩
    · rw [jPl_moveWhatLies_2_eq L q f t _ h (kP' hq), e6, if_pos (Int.le_refl _)]
    · rw [hI.1 _ _ (by omega), pL_0]; exact p1
    · rw [hI.1 _ _ (by omega)]; exact p2
    · rw [hI.1 _ _ (by omega), p4, opC_e (fun j => pL_4)]
    · rw [e5, hI.1 _ _ (by omega)]; exact p8 i i0 i1
    · rw [pL_0] at k1
      rw [hI.1 _ _ (by omega), hI.1 _ _ (by omega), hI.1 _ _ (by omega)]
      simp [pLie]
      exact p9 k k0 k1
    · have hi := p10 i i0 i1
      rw [hI.1 _ _ (by omega), hI.2, pL_4, pL_5, hi.2]
      refine ⟨hi.1, ?_⟩
      by_cases c : W 5 i = f
      · rw [if_pos ⟨i0, i1, c⟩, if_pos c]
      · rw [if_neg (fun q5 => c q5.2.2), if_neg c]
theorem cP_moveTo (hV : VaV V) (he0 : 0 ≤ e) (he1 : e < V 0 1) (hq : q = 118 ∨ q = 125) (hP : PlW L V e kd W q g) (h0 : 0 ≤ W 0 0) (h9 : W 0 0 < 9) (hi0 : 0 ≤ i) (hi1 : i < V 1 (V 3 e)) (ho : W 4 i ≠ 0) : ∃ g', jPl_moveTo L q i g = some g' ∧ PlW L V e kd (pMv W i (V (10 + V 3 e) i)) q g' ∧ Pf q g g' := by
  have hn := edg_n hV he0 he1
  have c6 : 0 ≤ i ∧ i < 6 := by omega
  obtain ⟨g1, a1, a2, a3⟩ := cP_add (s := 0) (t := V (10 + V 3 e) i) (f := W 5 i) hq hP h0 h9
  obtain ⟨g2, b1, b2, b3⟩ := cP_close hV he0 he1 hq a2 hi0 hi1 (by rw [pA_4]; exact ho)
  obtain ⟨g3, c1, c2, c3⟩ := cP_lies (f := W 5 i) (t := V (10 + V 3 e) i) hV he0 he1 hq b2
  refine ⟨g3, ?_, c2, Pf_t a3 (Pf_t b3 c3)⟩
  have hi := hP.2.2.2 i hi0 hi1
  rw [jPl_moveTo_eq L q i g (kP' hq), if_pos c6, if_pos hP.2.1.1, if_pos (by rw [hP.2.1.2.1]; exact c6), hP.2.1.2.2.2 i hi0 hi1, hi.2, a1, bnd, b1, bnd, if_pos b2.2.1.1, if_pos (by rw [b2.2.1.2.1]; exact c6), b2.2.1.2.2.2 i hi0 hi1, c1, bnd]
end PLA
