/-! run: bytes, what it answers -/
def xN (x : Int) : Int := (x * 1103515245 + 12345) % 2147483648
def xK (s : Int) : Nat → Int
  | 0 => s
  | k + 1 => xN (xK s k)
def Mb (a : Int) (B : Int → Int) (g : AMem) : Prop := ∀ k, 0 ≤ k → k < 36 → g a k = B k
def flB (s : Int) (S : Int → Int) (k : Int) : Int := if 0 ≤ k ∧ k < 32 then xK s (k + 1).toNat / 65536 % 256 else S k
def puB (B : Int → Int) (r c k : Int) : Int := if r / 10 ≤ k ∧ k < r / 10 + r % 10 then (if k = r / 10 then c else 0) else B k
def cpB (C B : Int → Int) (t f w k : Int) : Int := if t ≤ k ∧ k < t + w then C (f + (k - t)) else B k
def swB (B : Int → Int) (t f w k : Int) : Int := if t ≤ k ∧ k < t + w then B (f + (k - t)) else if f ≤ k ∧ k < f + w then B (t + (k - f)) else B k
def stB (B : Int → Int) (s t f : Int) : Int → Int := if s = 2 then puB B t (-1 - f) else if s = 1 then swB B (t / 10) (f / 10) (t % 10) else cpB B B (t / 10) (f / 10) (t % 10)
def foB (W : AMem) (B : Int → Int) : Nat → Int → Int
  | 0 => B
  | k + 1 => stB (foB W B k) (W 1 k) (W 2 k) (W 3 k)
def hoB (V : AMem) (e : Int) (B : Int → Int) : Nat → Int → Int
  | 0 => B
  | k + 1 => if V (20 + e) k < 0 then puB (hoB V e B k) (V (10 + V 3 e) k) (-1 - V (20 + e) k) else cpB B (hoB V e B k) (V (10 + V 3 e) k / 10) (V (20 + e) k / 10) (V (10 + V 3 e) k % 10)
def hsK (B : Int → Int) : Nat → Int
  | 0 => 1
  | k + 1 => lw (lw (31 * hsK B k) + B k)
theorem lw_n {x : Int} (h0 : 0 ≤ x) (h : x < 9223372036854775808) : lw x = x := lw_id (by omega) h
theorem xN_b {x : Int} : 0 ≤ xN x ∧ xN x < 2147483648 := by
  unfold xN
  omega
theorem xK_b {s : Int} (h0 : 0 ≤ s) (h1 : s < 2147483648) : ∀ {k : Nat}, 0 ≤ xK s k ∧ xK s k < 2147483648
  | 0 => ⟨h0, h1⟩
  | k + 1 => xN_b
theorem xK_s {s i : Int} (h : 0 ≤ i) : xK s (i + 1).toNat = xN (xK s i.toNat) := by
  have e : (i + 1).toNat = i.toNat + 1 := by omega
  rw [e, xK]
theorem xN_l {x : Int} (h0 : 0 ≤ x) (h1 : x < 2147483648) : lw ((lw ((lw (x * 1103515245)) + 12345)) - (lw ((lw (x * 1103515245)) + 12345)).tdiv 2147483648 * 2147483648) = xN x := by
  have a0 : 0 ≤ x * 1103515245 := by omega
  rw [lw_n a0 (by omega), lw_n (show 0 ≤ x * 1103515245 + 12345 by omega) (by omega), tdv (by omega), sbm, lw_n (by omega) (by omega)]
  rfl
theorem drw {x d m : Int} (h0 : 0 ≤ x) (h1 : x < 2147483648) (hd : 1 ≤ d) (hm : 1 ≤ m) (hm2 : m ≤ 100000) : iw (lw ((lw (x.tdiv d)) - (lw (x.tdiv d)).tdiv m * m)) = x / d % m := by
  have q0 : 0 ≤ x / d := Int.ediv_nonneg h0 (by omega)
  have q1 : x / d ≤ x := Int.ediv_le_self d h0
  have q2 : 0 ≤ x / d % m := Int.emod_nonneg _ (by omega)
  have q3 : x / d % m < m := Int.emod_lt_of_pos _ (by omega)
  rw [tdv h0, lw_n q0 (by omega), tdv q0, sbm, lw_n q2 (by omega), iw_n q2 (by omega)]
theorem plc_b {r : Int} (h : plc r) : 0 ≤ r ∧ r ≤ 324 ∧ (r % 10 = 1 ∨ r % 10 = 2 ∨ r % 10 = 4) ∧ r / 10 + r % 10 ≤ 36 ∧ (r / 10) % (r % 10) = 0 := by
  rcases h with h | h
  · have hb := isRg_b h
    unfold isRg at h
    simp only [decide_eq_true_eq] at h
    exact ⟨by omega, by omega, h.2.1, by omega, h.2.2.1⟩
  · rcases h with h | h | h <;> subst h <;> decide
/-- places as wide are the same or have nothing in common -/
theorem plc_d {t f : Int} (ht : plc t) (hf : plc f) (hw : f % 10 = t % 10) : t = f ∨ t / 10 + t % 10 ≤ f / 10 ∨ f / 10 + t % 10 ≤ t / 10 := by
  have h1 := plc_b ht
  have h2 := plc_b hf
  rw [hw] at h2
  rcases h1.2.2.1 with q | q | q <;> rw [q] at h1 h2 hw ⊢ <;> omega
section RUN
variable {L : Nat} {V W X g : AMem} {B C : Int → Int} {a b bt c d e f i j kd n p q r s t w x : Int}
theorem cM_next (h0 : 0 ≤ x) (h1 : x < 2147483648) : jM_next L x g = some (xN x, g) := by
  rw [jM_next_eq, xN_l h0 h1]
theorem cM_puts (hM : Mb 153 B g) (hr : isRg r = true) : ∃ g', jM_puts L r c g = some g' ∧ (∀ a k, a ≠ 153 → g' a k = g a k) ∧ Mb 153 (puB B r c) g' := by
  have hb := plc_b (Or.inl hr)
  have hr2 := isRg_b hr
  rw [jM_puts_eq]
  refine lpx (F := fun i h => jM_puts_2 L r c i h) (I := fun i h => (∀ a k, a ≠ 153 → h a k = g a k) ∧ ∀ k, 0 ≤ k → k < 36 → h 153 k = if r / 10 ≤ k ∧ k < r / 10 + i then (if k = r / 10 then c else 0) else B k) (P := fun q => ∃ g', q = some g' ∧ (∀ a k, a ≠ 153 → g' a k = g a k) ∧ Mb 153 (puB B r c) g') (n := r % 10) ?_ ?_ 0 g (Int.le_refl _) (by omega) ⟨fun a k _ => rfl, fun k k0 k1 => by rw [if_neg (by omega)]; exact hM k k0 k1⟩
  · intro i h h2 h3 hI ih
    rw [jM_puts_2_eq, cM_widthOf (by omega) (by omega), bnd]
    dsimp only
    rw [if_neg (by omega), cM_byteOf (by omega) (by omega), bnd]
    dsimp only
    rw [iw_n (show 0 ≤ r / 10 + i by omega) (by omega), iw_n (show 0 ≤ i + 1 by omega) (by omega), if_pos (show 0 ≤ r / 10 + i ∧ r / 10 + i < 36 by omega), if_pos (show 0 ≤ r / 10 + i ∧ r / 10 + i < 36 by omega)]
    have key : ∀ v, v = (if r / 10 + i = r / 10 then c else 0) → ∃ g', jM_puts_2 L r c (i + 1) (up h 153 (r / 10 + i) v) = some g' ∧ (∀ a k, a ≠ 153 → g' a k = g a k) ∧ Mb 153 (puB B r c) g' := by
      intro v hv
      refine ih _ ⟨fun a k q => by rw [up_n (by omega), hI.1 a k q], fun k k0 k1 => ?_⟩
      by_cases e1 : k = r / 10 + i
      · rw [e1, up_s, if_pos (by omega)]
        exact hv
      · rw [up_n (by omega), hI.2 k k0 k1]
        by_cases e2 : r / 10 ≤ k ∧ k < r / 10 + i
        · rw [if_pos e2, if_pos (show r / 10 ≤ k ∧ k < r / 10 + (i + 1) by omega)]
        · rw [if_neg e2, if_neg (show ¬ (r / 10 ≤ k ∧ k < r / 10 + (i + 1)) by omega)]
    by_cases q : i = 0
    · rw [if_neg (by omega)]
      exact key _ (by rw [if_pos (by omega)])
    · rw [if_pos q]
      exact key _ (by rw [if_neg (by omega)])
  · intro h hI
    refine ⟨h, ?_, hI.1, hI.2⟩
    rw [jM_puts_2_eq, cM_widthOf (by omega) (by omega), bnd]
    dsimp only
    rw [if_pos (Int.le_refl _)]
theorem cM_beginOf (h : plc r) : jM_beginOf L r g = some (r / 10, g) := by
  have hb := plc_b h
  rw [jM_beginOf_eq]
  by_cases q : r < 320
  · rw [if_pos q, cM_byteOf (by omega) (by omega)]
    rfl
  · rw [if_neg q, show r / 10 = 32 by omega]
theorem cM_so52 (hM : Mb 153 B g) (hP : RfP W n g) (hk0 : 0 ≤ a) (hk1 : a < W 0 0) (h9 : W 0 0 ≤ 9) (hs : W 1 a = 0 ∨ W 1 a = 1) (ht : plc (W 2 a)) (hf : plc (W 3 a)) (hw : W 3 a % 10 = W 2 a % 10) : ∃ g', jM_stepsOn_52 L a (W 2 a / 10) (W 3 a / 10) 0 vU g = some g' ∧ (∀ a k, a ≠ 153 → g' a k = g a k) ∧ Mb 153 (stB B (W 1 a) (W 2 a) (W 3 a)) g' := by
  have bt := plc_b ht
  have bf := plc_b hf
  have hd := plc_d ht hf hw
  rw [hw] at bf
  obtain ⟨T, hT⟩ : ∃ T, T = W 2 a / 10 := ⟨_, rfl⟩
  obtain ⟨F, hF⟩ : ∃ F, F = W 3 a / 10 := ⟨_, rfl⟩
  obtain ⟨w, hw'⟩ : ∃ w, w = W 2 a % 10 := ⟨_, rfl⟩
  have hd2 : T = F ∨ T + w ≤ F ∨ F + w ≤ T := by
    rw [hT, hF, hw']
    rcases hd with h | h
    · left
      rw [h]
    · exact Or.inr h
  have hst : stB B (W 1 a) (W 2 a) (W 3 a) = if W 1 a = 1 then swB B T F w else cpB B B T F w := by
    unfold stB
    rw [if_neg (by omega), hT, hF, hw']
  have g24 : 0 ≤ a ∧ a < 24 := by omega
  have hPa := hP.2.1 a hk0 hk1
  rw [hst, ← hT, ← hF]
  have b1 : 0 ≤ T ∧ 0 ≤ F ∧ 1 ≤ w ∧ w ≤ 4 ∧ T + w ≤ 36 ∧ F + w ≤ 36 := by omega
  refine lpx (F := fun i s => jM_stepsOn_52 L a T F i s.1 s.2) (σ := AVal × AMem) (I := fun i s => (∀ a k, a ≠ 153 → s.2 a k = g a k) ∧ ∀ k, 0 ≤ k → k < 36 → s.2 153 k = if W 1 a = 1 then swB B T F i k else cpB B B T F i k) (P := fun q => ∃ g', q = some g' ∧ (∀ a k, a ≠ 153 → g' a k = g a k) ∧ Mb 153 (if W 1 a = 1 then swB B T F w else cpB B B T F w) g') (n := w) ?_ ?_ 0 (vU, g) (Int.le_refl _) (by omega) ⟨fun a k _ => rfl, fun k k0 k1 => ?_⟩
  · intro i s h2 h3 hI ih
    obtain ⟨x, h⟩ := s
    have ih := fun x h => ih (x, h)
    dsimp only at hI ih ⊢
    have m1 : h 145 a = W 1 a := by rw [hI.1 _ _ (by omega)]; exact hPa.1
    have m2 : h 146 a = W 2 a := by rw [hI.1 _ _ (by omega)]; exact hPa.2.1
    have iT : 0 ≤ T + i ∧ T + i < 36 := by omega
    have iF : 0 ≤ F + i ∧ F + i < 36 := by omega
    rw [jM_stepsOn_52_eq, if_pos g24, m2, cM_widthOf bt.1 (by omega), bnd]
    dsimp only
    rw [← hw', if_neg (show ¬ w ≤ i by omega), iw_n (show 0 ≤ T + i by omega) (by omega), iw_n (show 0 ≤ F + i by omega) (by omega), iw_n (show 0 ≤ i + 1 by omega) (by omega), if_pos iT, if_pos iF, if_pos iT, if_pos g24, up_n (show (145 : Int) ≠ 153 ∨ a ≠ T + i by omega), m1]
    by_cases c1 : W 1 a = 1
    · rw [if_neg (show ¬ W 1 a ≠ 1 by omega), if_pos iF]
      have hIk := hI.2
      simp only [c1, if_true] at hIk
      refine ih _ _ ⟨fun a k q => by rw [up_n (by omega), up_n (by omega), hI.1 a k q], fun k k0 k1 => ?_⟩
      rw [if_pos c1]
      have v1 : h 153 (F + i) = B (F + i) := by
        rw [hIk _ iF.1 iF.2]
        unfold swB
        by_cases e0 : T = F
        · rw [if_neg (by omega), if_neg (by omega)]
        · rw [if_neg (by omega), if_neg (by omega)]
      have v2 : h 153 (T + i) = B (T + i) := by
        rw [hIk _ iT.1 iT.2]
        unfold swB
        by_cases e0 : T = F
        · rw [if_neg (by omega), if_neg (by omega)]
        · rw [if_neg (by omega), if_neg (by omega)]
      by_cases e1 : k = F + i
      · rw [e1, up_s, v2]
        unfold swB
        by_cases e0 : T = F
        · rw [if_pos (by omega)]
          congr 1
          omega
        · rw [if_neg (by omega), if_pos (by omega)]
          congr 1
          omega
      · rw [up_n (by omega)]
        by_cases e2 : k = T + i
        · rw [e2, up_s, v1]
          unfold swB
          rw [if_pos (by omega)]
          congr 1
          omega
        · rw [up_n (by omega), hIk k k0 k1]
          unfold swB
          by_cases e3 : T ≤ k ∧ k < T + i
          · rw [if_pos e3, if_pos (by omega)]
          · rw [if_neg e3, if_neg (show ¬ (T ≤ k ∧ k < T + (i + 1)) by omega)]
            by_cases e4 : F ≤ k ∧ k < F + i
            · rw [if_pos e4, if_pos (by omega)]
            · rw [if_neg e4, if_neg (by omega)]
    · rw [if_pos c1, if_pos iF, if_pos iF]
      have hIk := hI.2
      simp only [c1, if_false] at hIk
      refine ih _ _ ⟨fun a k q => by rw [up_n (by omega), up_n (by omega), hI.1 a k q], fun k k0 k1 => ?_⟩
      rw [if_neg c1]
      have v1 : h 153 (F + i) = B (F + i) := by
        rw [hIk _ iF.1 iF.2]
        unfold cpB
        rw [if_neg (by omega)]
      have hstep : up h 153 (T + i) (h 153 (F + i)) 153 k = cpB B B T F (i + 1) k := by
        by_cases e2 : k = T + i
        · rw [e2, up_s, v1]
          unfold cpB
          rw [if_pos (by omega)]
          congr 1
          omega
        · rw [up_n (by omega), hIk k k0 k1]
          unfold cpB
          by_cases e3 : T ≤ k ∧ k < T + i
          · rw [if_pos e3, if_pos (by omega)]
          · rw [if_neg e3, if_neg (by omega)]
      by_cases e1 : k = F + i
      · rw [← e1, up_s]
        rw [← e1] at hstep
        exact hstep
      · rw [up_n (by omega)]
        exact hstep
  · intro s hI
    have m2 : s.2 146 a = W 2 a := by rw [hI.1 _ _ (by omega)]; exact hPa.2.1
    refine ⟨s.2, ?_, hI.1, fun k k0 k1 => ?_⟩
    · rw [jM_stepsOn_52_eq, if_pos g24, m2, cM_widthOf bt.1 (by omega), bnd]
      dsimp only
      rw [← hw', if_pos (Int.le_refl _)]
    · rw [hI.2 k k0 k1]
      split <;> rfl
  · dsimp only
    rw [hM k k0 k1]
    unfold swB cpB
    by_cases c1 : W 1 a = 1
    · rw [if_pos c1, if_neg (by omega), if_neg (by omega)]
    · rw [if_neg c1, if_neg (by omega)]
theorem cM_stepsOn (hM : Mb 153 B g) (hP : RfP W n g) (hS : SO W) (h9 : W 0 0 ≤ 9) (hk0 : 0 ≤ a) (hk1 : a < W 0 0) : ∃ g', jM_stepsOn L a g = some g' ∧ (∀ a k, a ≠ 153 → g' a k = g a k) ∧ Mb 153 (stB B (W 1 a) (W 2 a) (W 3 a)) g' := by
  have g24 : 0 ≤ a ∧ a < 24 := by omega
  have hPa := hP.2.1 a hk0 hk1
  have ho := hS.2 a hk0 hk1
  rw [jM_stepsOn_eq, if_pos g24, hPa.2.1, cM_beginOf ho.1, bnd]
  dsimp only
  rw [if_pos g24, if_pos g24, if_pos g24, if_pos g24, hPa.2.1, hPa.2.2]
  rcases ho.2 with h | h
  · rw [if_neg (show ¬ g 145 a ≠ 2 by rw [hPa.1]; omega), iw_s (by omega)]
    obtain ⟨g1, a1, a2, a3⟩ := cM_puts (L := L) (c := -1 - W 3 a) hM h.2.1
    rw [a1, bnd]
    refine ⟨g1, rfl, a2, ?_⟩
    unfold stB
    rw [if_pos h.1]
    exact a3
  · have hs : W 1 a = 0 ∨ W 1 a = 1 := by
      rcases h.1 with q | q
      · exact Or.inl q
      · exact Or.inr q.1
    rw [if_pos (show g 145 a ≠ 2 by rw [hPa.1]; omega), cM_beginOf h.2.1, bnd]
    dsimp only
    exact cM_so52 hM hP hk0 hk1 h9 hs ho.1 h.2.1 h.2.2
end RUN
