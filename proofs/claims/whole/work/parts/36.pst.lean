/-! a step of the plan, and how many there can be -/
def mvC (kd w : Int) : Int := if kd = 3 then w else if kd = 4 then (w + 1) / 2 else 1
def chC (kd w : Int) : Int := if kd = 1 then 1 else if kd = 2 then 3 else if kd = 4 then (w + 1) / 2 + 1 else 0
def fwI (V W : AMem) (b i : Int) : Int := whI V b (V 1 b) (W 5 i) (-201)
def rgW (V W : AMem) (b q : Int) : Nat → Int → Int → Int
  | 0, _, m => m
  | k + 1, i, m => if i = q then m else rgW V W b q k (fwI V W b i) (m + 1)
def pSp (V W : AMem) (b q : Int) : AMem := pLie (pAdd W 0 (320 + V (10 + b) q % 10) (V (10 + b) q)) (V (10 + b) q) (320 + V (10 + b) q % 10)
def pC1 (V W : AMem) (b i : Int) : AMem := up (pAdd W 1 (V (10 + b) i) (W 5 i)) 4 i 0
def pCh (V : AMem) (b : Int) : Nat → AMem → Int → AMem
  | 0, W, i => up W 4 i 0
  | k + 1, W, i => pCh V b k (pC1 V W b i) (fwI V W b i)
def pBr (V W : AMem) (b kd q : Int) : AMem := if chC kd (V (10 + b) q % 10) = 0 ∨ (rgW V W b q 6 (fwI V W b q) 1 + 1) * mvC kd (V (10 + b) q % 10) ≤ (rgW V W b q 6 (fwI V W b q) 1 - 1) * chC kd (V (10 + b) q % 10) then pSp V W b q else pCh V b (rgW V W b q 6 (fwI V W b q) 1 - 1).toNat W q
def loI (V W : AMem) (b : Int) (u : Bool) : Int := loK (-201) (myB V W b (V 1 b) u) (fun i => V (10 + b) i / 10) (V 1 b).toNat
def pSt (V W : AMem) (b kd : Int) : AMem := if loI V W b true = -201 then pBr V W b kd (loI V W b false) else pMv W (loI V W b true) (V (10 + b) (loI V W b true))
def plc (x : Int) : Prop := isRg x = true ∨ x = 321 ∨ x = 322 ∨ x = 324
def stpO (s t f : Int) : Prop := plc t ∧ ((s = 2 ∧ isRg t = true ∧ -100 ≤ f ∧ f < 0) ∨ ((s = 0 ∨ (s = 1 ∧ isRg t = true ∧ isRg f = true)) ∧ plc f ∧ f % 10 = t % 10))
def BI (V W : AMem) (b : Int) : Prop := 0 ≤ W 0 0 ∧ (∀ i, 0 ≤ i → i < V 1 b → W 4 i ≠ 0 → W 5 i ≠ V (10 + b) i ∧ plc (W 5 i) ∧ W 5 i % 10 = V (10 + b) i % 10) ∧ ∀ k, 0 ≤ k → k < W 0 0 → stpO (W 1 k) (W 2 k) (W 3 k)
theorem cnB_c {f g : Int → Bool} {i : Int} : ∀ {k : Nat}, 0 ≤ i → i < k → f i = true → g i = false → (∀ j, j ≠ i → f j = g j) → cnB g k = cnB f k - 1
  | 0, h0, h1, _, _, _ => by omega
  | k + 1, h0, h1, h2, h3, h4 => by
    rw [cnB, cnB]
    by_cases e : i = k
    · subst e
      rw [if_pos h2, h3, cnB_cong (fun j _ q => (h4 j (by omega)).symm)]
      simp
    · rw [cnB_c (k := k) h0 (by omega) h2 h3 h4, h4 k (by omega)]
      omega
theorem cnB_p {f : Int → Bool} {k : Nat} (h : 0 < cnB f k) : ∃ i : Int, 0 ≤ i ∧ i < k ∧ f i = true := by
  induction k with
  | zero => simp [cnB] at h
  | succ k ih =>
    rw [cnB] at h
    by_cases q : f k = true
    · exact ⟨k, by omega, by omega, q⟩
    · rw [if_neg q] at h
      obtain ⟨i, h0, h1, h2⟩ := ih (by omega)
      exact ⟨i, h0, by omega, h2⟩
theorem cnB_z {f : Int → Bool} {k : Nat} (h : cnB f k = 0) : ∀ i : Int, 0 ≤ i → i < k → f i = false := by
  induction k with
  | zero =>
    intro i h0 h1
    omega
  | succ k ih =>
    rw [cnB] at h
    have hb := cnB_b (f := f) (k := k)
    intro i h0 h1
    by_cases q : f k = true
    · rw [if_pos q] at h
      omega
    · rw [if_neg q] at h
      by_cases e : i = k
      · rw [e]
        exact Bool.eq_false_iff.mpr q
      · exact ih (by omega) i h0 (by omega)
section PST
variable {V W W' : AMem} {b d f i j k kd n p q r s t x : Int}
theorem pA_0 : pAdd W s t f 0 0 = W 0 0 + 1 := by simp [pAdd]
theorem pA_4 : pAdd W s t f 4 i = W 4 i := by simp [pAdd]
theorem pA_5 : pAdd W s t f 5 i = W 5 i := by simp [pAdd]
theorem pL_0 : pLie W f t 0 k = W 0 k := by simp [pLie]
theorem pL_4 : pLie W f t 4 i = W 4 i := by simp [pLie]
theorem pL_5 : pLie W f t 5 i = if W 5 i = f then t else W 5 i := by simp [pLie]
theorem pM_0 : pMv W i p 0 0 = W 0 0 + 1 := by
  unfold pMv
  rw [pL_0, up_n (by omega), pA_0]
theorem pM_4 : pMv W i p 4 j = if j = i then 0 else W 4 j := by
  unfold pMv
  rw [pL_4]
  by_cases h : j = i
  · rw [h, up_s, if_pos rfl]
  · rw [up_n (by omega), pA_4, if_neg h]
theorem pM_5 : pMv W i p 5 j = if W 5 j = W 5 i then p else W 5 j := by
  unfold pMv
  rw [pL_5, up_n (by omega), pA_5]
theorem pS_0 : pSp V W b q 0 0 = W 0 0 + 1 := by
  unfold pSp
  rw [pL_0, pA_0]
theorem pS_4 : pSp V W b q 4 j = W 4 j := by
  unfold pSp
  rw [pL_4, pA_4]
theorem pS_5 : pSp V W b q 5 j = if W 5 j = V (10 + b) q then 320 + V (10 + b) q % 10 else W 5 j := by
  unfold pSp
  rw [pL_5, pA_5]
theorem opC_c (h0 : 0 ≤ i) (h1 : i < n) (h2 : W 4 i ≠ 0) (h3 : W' 4 i = 0) (h4 : ∀ j, j ≠ i → W' 4 j = W 4 j) : opC W' n = opC W n - 1 := by
  unfold opC
  exact cnB_c h0 (by omega) (by simp [h2]) (by simp [h3]) (fun j q => by rw [h4 j q])
theorem opC_e (h : ∀ j, W' 4 j = W 4 j) : opC W' n = opC W n := by
  unfold opC
  exact cnB_cong (fun j _ _ => by rw [h j])
theorem pAdd_stp (hs : ∀ k, 0 ≤ k → k < W 0 0 → stpO (W 1 k) (W 2 k) (W 3 k)) (h : stpO s t f) : ∀ k, 0 ≤ k → k < W 0 0 + 1 → stpO (pAdd W s t f 1 k) (pAdd W s t f 2 k) (pAdd W s t f 3 k) := by
  intro k h0 h1
  by_cases e : k = W 0 0
  · rw [e]
    simp [pAdd]
    exact h
  · simp [pAdd, e]
    exact hs k h0 (by omega)
theorem rg_w {r : Int} (h : isRg r = true) : plc (320 + r % 10) := by
  unfold isRg at h
  simp only [decide_eq_true_eq] at h
  unfold plc
  omega
/-- one that is free: nothing lies there that is wanted -/
def rdy (V W : AMem) (b i : Int) : Prop := 0 ≤ i ∧ i < V 1 b ∧ W 4 i ≠ 0 ∧ wnB W (V 1 b) (V (10 + b) i) = false
def PhA (V W : AMem) (b D : Int) : Prop := 2 * W 0 0 + 3 * opC W (V 1 b) + 2 * D ≤ 18
def PhB (V W : AMem) (b D : Int) : Prop := 2 * W 0 0 + 3 * opC W (V 1 b) + 2 * D ≤ 19 ∧ ∃ i, rdy V W b i
def PhC (V W : AMem) (b D : Int) : Prop := 2 * W 0 0 + 3 * opC W (V 1 b) + 2 * D ≤ 20 ∧ ∃ i, rdy V W b i ∧ (∀ j, rdy V W b j → j = i) ∧ ∃ j, 0 ≤ j ∧ j < V 1 b ∧ W 4 j ≠ 0 ∧ j ≠ i ∧ W 5 i = V (10 + b) j
def PI (V W : AMem) (b D : Int) : Prop := BI V W b ∧ (PhA V W b D ∨ PhB V W b D ∨ PhC V W b D)
theorem loI_b {u : Bool} (hB : bOK V b) : loI V W b u = -201 ∨ (0 ≤ loI V W b u ∧ loI V W b u < V 1 b ∧ W 4 (loI V W b u) ≠ 0 ∧ (u = true → wnB W (V 1 b) (V (10 + b) (loI V W b u)) = false)) := by
  have h := loK_b (d := -201) (may := myB V W b (V 1 b) u) (key := fun i => V (10 + b) i / 10) (k := (V 1 b).toNat)
  rcases h with h | h
  · exact Or.inl h
  · right
    have h2 := h.2.2
    unfold myB at h2
    simp only [Bool.and_eq_true, decide_eq_true_eq, Bool.not_eq_true', Bool.and_eq_false_iff] at h2
    have := hB.1
    refine ⟨h.1, by unfold loI; omega, h2.1, fun hu => ?_⟩
    rcases h2.2 with q | q
    · rw [hu] at q
      cases q
    · exact q
theorem loK_n {d : Int} {may : Int → Bool} {key : Int → Int} (hd : d < 0) : ∀ {k : Nat}, loK d may key k = d → ∀ i : Int, 0 ≤ i → i < k → may i = false
  | 0, _, i, h0, h1 => by omega
  | k + 1, h, i, h0, h1 => by
    rw [loK] at h
    by_cases q : may k = true ∧ (loK d may key k = d ∨ key k < key (loK d may key k))
    · rw [if_pos q] at h
      omega
    · rw [if_neg q] at h
      by_cases e : i = k
      · rw [e]
        cases hm : may k with
        | false => rfl
        | true => exact absurd ⟨hm, Or.inl h⟩ q
      · exact loK_n hd h i h0 (by omega)
theorem loI_n {u : Bool} (hB : bOK V b) (h : loI V W b u = -201) (h0 : 0 ≤ i) (h1 : i < V 1 b) (h2 : W 4 i ≠ 0) : u = true ∧ wnB W (V 1 b) (V (10 + b) i) = true := by
  have := loK_n (by omega) h i h0 (by omega)
  unfold myB at this
  simp only [Bool.and_eq_false_iff, decide_eq_false_iff_not, Bool.not_eq_false', Bool.and_eq_true] at this
  rcases this with q | q
  · exact absurd h2 q
  · exact q
/-- a move keeps what holds -/
theorem PI_mv {D : Int} (hB : bOK V b) (hI : PI V W b D) (hr : rdy V W b i) : PI V (pMv W i (V (10 + b) i)) b D := by
  obtain ⟨⟨b1, b2, b3⟩, hp⟩ := hI
  obtain ⟨h0, h1, h2, h3⟩ := hr
  have hbi := b2 i h0 h1 h2
  have hc : opC (pMv W i (V (10 + b) i)) (V 1 b) = opC W (V 1 b) - 1 := opC_c h0 h1 h2 (by rw [pM_4, if_pos rfl]) (fun j q => by rw [pM_4, if_neg q])
  refine ⟨⟨by rw [pM_0]; omega, fun k k0 k1 k2 => ?_, fun k k0 k1 => ?_⟩, ?_⟩
  · rw [pM_4] at k2
    by_cases e : k = i
    · rw [if_pos e] at k2
      exact absurd rfl k2
    · rw [if_neg e] at k2
      have hbk := b2 k k0 k1 k2
      rw [pM_5]
      by_cases q : W 5 k = W 5 i
      · rw [if_pos q]
        refine ⟨fun q2 => e (bOK_d hB h0 h1 k0 k1 q2).symm, Or.inl (hB.2.1 i h0 h1), ?_⟩
        rw [← hbi.2.2, ← q, hbk.2.2]
      · rw [if_neg q]
        exact hbk
  · rw [pM_0] at k1
    have := pAdd_stp (s := 0) (t := V (10 + b) i) (f := W 5 i) b3 ⟨Or.inl (hB.2.1 i h0 h1), Or.inr ⟨Or.inl rfl, hbi.2.1, hbi.2.2⟩⟩ k k0 k1
    unfold pMv pLie
    simp only [show ¬ ((1 : Int) = 5) by omega, show ¬ ((2 : Int) = 5) by omega, show ¬ ((3 : Int) = 5) by omega, false_and, if_false]
    rw [up_n (by omega), up_n (by omega), up_n (by omega)]
    exact this
  · rcases hp with hp | hp | hp
    · left
      unfold PhA at hp ⊢
      rw [pM_0, hc]
      omega
    · left
      have := hp.1
      unfold PhA
      rw [pM_0, hc]
      omega
    · right
      left
      obtain ⟨c1, i', c2, c3, j, j0, j1, j2, j3, j4⟩ := hp
      have e : i = i' := c3 i ⟨h0, h1, h2, h3⟩
      subst e
      refine ⟨by rw [pM_0, hc]; omega, j, j0, j1, by rw [pM_4, if_neg j3]; exact j2, ?_⟩
      rw [Bool.eq_false_iff]
      intro hw
      obtain ⟨k, k0, k1, k2, k3⟩ := wnB_t.mp hw
      rw [pM_5] at k3
      by_cases q : W 5 k = W 5 i
      · rw [if_pos q] at k3
        exact j3 (bOK_d hB j0 j1 h0 h1 k3.symm)
      · rw [if_neg q, ← j4] at k3
        exact q k3
theorem stk_f {D : Int} (hB : bOK V b) (hI : PI V W b D) (h : loI V W b true = -201) : stk V W b ∧ PhA V W b D := by
  have hs : stk V W b := fun j j0 j1 j2 => (loI_n hB h j0 j1 j2).2
  refine ⟨hs, ?_⟩
  have no : ∀ i, ¬ rdy V W b i := fun i q => by
    have := hs i q.1 q.2.1 q.2.2.1
    rw [q.2.2.2] at this
    cases this
  rcases hI.2 with hp | hp | hp
  · exact hp
  · obtain ⟨i, q⟩ := hp.2
    exact absurd q (no i)
  · obtain ⟨i, q, -⟩ := hp.2
    exact absurd q (no i)
/-- so does one to the spare place -/
theorem PI_sp {D : Int} (hB : bOK V b) (hI : BI V W b) (hA : PhA V W b D) (hs : stk V W b) (h0 : 0 ≤ q) (h1 : q < V 1 b) (h2 : W 4 q ≠ 0) : PI V (pSp V W b q) b D := by
  obtain ⟨b1, b2, b3⟩ := hI
  have hbq := b2 q h0 h1 h2
  have hrq := hB.2.1 q h0 h1
  have hrb := isRg_b hrq
  have hc : opC (pSp V W b q) (V 1 b) = opC W (V 1 b) := opC_e (fun j => pS_4)
  have hw5 : ∀ k, 0 ≤ k → k < V 1 b → V (10 + b) k ≠ 320 + V (10 + b) q % 10 := fun k k0 k1 => by
    have := isRg_b (hB.2.1 k k0 k1)
    omega
  refine ⟨⟨by rw [pS_0]; omega, fun k k0 k1 k2 => ?_, fun k k0 k1 => ?_⟩, ?_⟩
  · rw [pS_4] at k2
    have hbk := b2 k k0 k1 k2
    rw [pS_5]
    by_cases e : W 5 k = V (10 + b) q
    · rw [if_pos e]
      refine ⟨fun q2 => hw5 k k0 k1 q2.symm, rg_w hrq, ?_⟩
      rw [← hbk.2.2, e]
      omega
    · rw [if_neg e]
      exact hbk
  · rw [pS_0] at k1
    have := pAdd_stp (s := 0) (t := 320 + V (10 + b) q % 10) (f := V (10 + b) q) b3 ⟨rg_w hrq, Or.inr ⟨Or.inl rfl, Or.inl hrq, by omega⟩⟩ k k0 k1
    unfold pSp pLie
    simp only [show ¬ ((1 : Int) = 5) by omega, show ¬ ((2 : Int) = 5) by omega, show ¬ ((3 : Int) = 5) by omega, false_and, if_false]
    exact this
  · right
    right
    obtain ⟨t1, t2⟩ := stk_1 hB hs
    obtain ⟨j, j0, j1, j2, j3⟩ := t1 q h0 h1 h2
    have hjq : j ≠ q := fun e => hbq.1 (by rw [j3, e])
    unfold PhA at hA
    refine ⟨by rw [pS_0, hc]; omega, q, ⟨h0, h1, by rw [pS_4]; exact h2, ?_⟩, fun k hk => ?_, j, j0, j1, by rw [pS_4]; exact j2, hjq, by rw [pS_5, if_neg hbq.1]; exact j3⟩
    · rw [Bool.eq_false_iff]
      intro hw
      obtain ⟨k, k0, k1, k2, k3⟩ := wnB_t.mp hw
      rw [pS_5] at k3
      by_cases e : W 5 k = V (10 + b) q
      · rw [if_pos e] at k3
        exact hw5 q h0 h1 k3.symm
      · rw [if_neg e] at k3
        exact e k3
    · obtain ⟨k0, k1, k2, k3⟩ := hk
      rw [pS_4] at k2
      by_cases e : k = q
      · exact e
      · exfalso
        obtain ⟨l, l0, l1, l2, l3⟩ := wnB_t.mp (hs k k0 k1 k2)
        have : wnB (pSp V W b q) (V 1 b) (V (10 + b) k) = true := wnB_t.mpr ⟨l, l0, l1, by rw [pS_4]; exact l2, by
          rw [pS_5, if_neg (fun q2 => e (bOK_d hB k0 k1 h0 h1 (by rw [← l3, q2])))]
          exact l3⟩
        rw [this] at k3
        cases k3
end PST
