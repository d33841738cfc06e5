/-! draw: what it answers, and what it makes -/
def wdT (x : Int) : Int := if x / 65536 % 3 = 0 then 4 else if x / 65536 % 3 = 1 then 2 else 1
def arT (x p : Int) : Int := if x / 65536 % 8 = 7 then -1 - x / 1024 % 100 else 40 * (x / 65536 % 8) + p % 10
def dpK (V : AMem) (b x : Int) : Nat → AMem × Int
  | 0 => (V, x)
  | i + 1 => (npV (dpK V b x i).1 b (40 * (i : Int) + wdT (xN (dpK V b x i).2)), xN (dpK V b x i).2)
def dbK (V : AMem) (x n : Int) : Nat → AMem × Int
  | 0 => (V, x)
  | b + 1 => dpK (nbV (dbK V x n b).1) b (dbK V x n b).2 n.toNat
def daK (V : AMem) (e x : Int) : Nat → AMem × Int
  | 0 => (V, x)
  | i + 1 => (up (daK V e x i).1 (20 + e) i (arT (xN (daK V e x i).2) (V (10 + V 3 e) i)), xN (daK V e x i).2)
def deS (V : AMem) (x : Int) : AMem := neV V (xN x / 65536 % 8) (xN (xN x) / 65536 % 8) (xN (xN (xN x)) / 65536 % 100)
def deK (V : AMem) (x n : Int) : Nat → AMem × Int
  | 0 => (V, x)
  | k + 1 => daK (deS (deK V x n k).1 (deK V x n k).2) k (xN (xN (xN (deK V x n k).2))) n.toNat
def drV (V : AMem) (s n m : Int) : AMem := (deK (dbK (oAnew V).2 s n 8).1 (dbK (oAnew V).2 s n 8).2 n m.toNat).1
def oDraw (V : AMem) (s n m : Int) : Int × AMem := if 0 ≤ s ∧ s ≤ 999999 then (if 0 ≤ n ∧ n ≤ 6 then (if 0 ≤ m ∧ m ≤ 16 then (m, drV V s n m) else rB V) else rB V) else rB V
def xR (x : Int) : Prop := 0 ≤ x ∧ x < 2147483648
theorem wdT_b {x : Int} : wdT x = 1 ∨ wdT x = 2 ∨ wdT x = 4 := by
  unfold wdT
  split
  · exact Or.inr (Or.inr rfl)
  · split
    · exact Or.inr (Or.inl rfl)
    · exact Or.inl rfl
theorem rg_40 {i w : Int} (h0 : 0 ≤ i) (h1 : i ≤ 6) (hw : w = 1 ∨ w = 2 ∨ w = 4) : isRg (40 * i + w) = true ∧ (40 * i + w) % 10 = w ∧ (40 * i + w) / 10 = 4 * i := by
  have e1 : (40 * i + w) % 10 = w := by omega
  have e2 : (40 * i + w) / 10 = 4 * i := by omega
  refine ⟨?_, e1, e2⟩
  unfold isRg
  simp only [decide_eq_true_eq]
  rw [e1, e2]
  refine ⟨by omega, hw, ?_, by omega⟩
  rcases hw with h | h | h <;> rw [h] <;> omega
section DRA
variable {V : AMem} {b e m n p s x : Int}
theorem dpK_I (hV : VaV V) (hb0 : 0 ≤ b) (hb1 : b < V 0 0) (h1 : V 1 b = 0) (he : V 0 1 = 0) (hx : xR x) : ∀ {i : Nat}, i ≤ 6 → VaV (dpK V b x i).1 ∧ xR (dpK V b x i).2 ∧ (dpK V b x i).1 1 b = i ∧ (∀ c, c ≠ b → (dpK V b x i).1 1 c = V 1 c) ∧ (∀ k, (dpK V b x i).1 0 k = V 0 k) ∧ ∀ j : Int, 0 ≤ j → j < i → ∃ w : Int, (w = 1 ∨ w = 2 ∨ w = 4) ∧ (dpK V b x i).1 (10 + b) j = 40 * j + w
  | 0, _ => ⟨hV, hx, h1, fun c _ => rfl, fun k => rfl, fun j j0 j1 => by omega⟩
  | i + 1, hi => by
    obtain ⟨a1, a2, a3, a4, a5, a6⟩ := dpK_I hV hb0 hb1 h1 he hx (i := i) (by omega)
    have hb := hV.1
    have hw := wdT_b (x := xN (dpK V b x i).2)
    have hr := rg_40 (i := (i : Int)) (by omega) (by omega) hw
    rw [dpK]
    dsimp only
    refine ⟨VaV_np a1 hb0 (by rw [a5]; omega) (by rw [a3]; omega) hr.1 (fun j j0 j1 => ?_), xN_b, ?_, fun c hc => ?_, fun k => ?_, fun j j0 j1 => ?_⟩
    · rw [a3] at j1
      obtain ⟨w, w1, w2⟩ := a6 j j0 j1
      have hr2 := rg_40 (i := j) (w := w) j0 (by omega) w1
      rw [w2]
      unfold shB
      rw [hr.2.1, hr.2.2, hr2.2.1, hr2.2.2]
      simp only [decide_eq_false_iff_not]
      omega
    · rw [np_1 hb0, a3]
      omega
    · rw [np_n (by omega) (by omega) hb0]
      exact a4 c hc
    · rw [np_b (by omega) (by omega) (by omega)]
      exact a5 k
    · by_cases q : j = i
      · refine ⟨wdT (xN (dpK V b x i).2), hw, ?_⟩
        rw [show j = (dpK V b x i).1 1 b by rw [a3]; exact q, np_r (Or.inl rfl), a3]
      · obtain ⟨w, w1, w2⟩ := a6 j j0 (by omega)
        refine ⟨w, w1, ?_⟩
        rw [np_n (by rw [a3]; omega) (by omega) hb0]
        exact w2
def DI (V : AMem) (b n : Int) : Prop := VaV V ∧ V 0 0 = b ∧ V 0 1 = 0 ∧ ∀ c, 0 ≤ c → c < b → V 1 c = n
theorem nb_I {c : Int} (hD : DI V b n) (hb : b < 10) : VaV (nbV V) ∧ nbV V 0 0 = b + 1 ∧ nbV V 0 1 = 0 ∧ nbV V 1 b = 0 ∧ (c ≠ b → nbV V 1 c = V 1 c) := by
  obtain ⟨d1, d2, d3, d4⟩ := hD
  refine ⟨VaV_nb d1 (by omega), by rw [nb_0]; omega, by rw [nb_n (by omega) (by omega)]; exact d3, by rw [← d2, nb_1], fun hc => by rw [nb_n (by omega) (by omega)]⟩
theorem dbK_I (hV : DI V 0 n) (hx : xR x) (hn0 : 0 ≤ n) (hn1 : n ≤ 6) : ∀ {b : Nat}, b ≤ 8 → DI (dbK V x n b).1 b n ∧ xR (dbK V x n b).2
  | 0, _ => ⟨hV, hx⟩
  | b + 1, hb => by
    obtain ⟨hD, hxb⟩ := dbK_I hV hx hn0 hn1 (b := b) (by omega)
    have hN := nb_I (c := 0) hD (by omega)
    obtain ⟨a1, a2, a3, a4, a5, a6⟩ := dpK_I (V := nbV (dbK V x n b).1) (b := (b : Int)) hN.1 (by omega) (by omega) hN.2.2.2.1 hN.2.2.1 hxb (i := n.toNat) (by omega)
    rw [dbK]
    refine ⟨⟨a1, by rw [a5, hN.2.1]; omega, by rw [a5]; exact hN.2.2.1, fun c c0 c1 => ?_⟩, a2⟩
    by_cases q : c = b
    · rw [q, a3]
      omega
    · rw [a4 c q, (nb_I (c := c) hD (by omega)).2.2.2.2 q]
      exact hD.2.2.2 c c0 (by omega)
theorem arT_o (hw : p % 10 = 1 ∨ p % 10 = 2 ∨ p % 10 = 4) : okA (arT x p) p := by
  unfold arT okA
  split
  · left
    omega
  · right
    have hr := rg_40 (i := x / 65536 % 8) (w := p % 10) (by omega) (by omega) hw
    exact ⟨hr.1, hr.2.1⟩
theorem daK_I (hV : VaV V) (he0 : 0 ≤ e) (he1 : e < V 0 1) (hx : xR x) : ∀ {i : Nat}, (i : Int) ≤ V 1 (V 3 e) → VaV (daK V e x i).1 ∧ xR (daK V e x i).2 ∧ ∀ a k, a < 20 → (daK V e x i).1 a k = V a k
  | 0, _ => ⟨hV, hx, fun _ _ _ => rfl⟩
  | i + 1, hi => by
    obtain ⟨a1, a2, a3⟩ := daK_I hV he0 he1 hx (i := i) (by omega)
    have hE := hV.2.2.2.2.2.1 e he0 he1
    have hB := bOK_e hV he0 he1
    have hr := hB.2.1 i (by omega) (by omega)
    have hb := hV.1
    unfold isRg at hr
    simp only [decide_eq_true_eq] at hr
    rw [daK]
    dsimp only
    refine ⟨VaV_up a1 he0 (by omega) ?_, xN_b, fun a k q => by rw [up_n (by omega)]; exact a3 a k q⟩
    rw [a3 3 _ (by omega), a3 (10 + V 3 e) _ (by omega)]
    exact arT_o hr.2.1
def EI (V : AMem) (k n : Int) : Prop := VaV V ∧ V 0 0 = 8 ∧ V 0 1 = k ∧ ∀ c, 0 ≤ c → c < 8 → V 1 c = n
theorem deS_I {k : Int} (hE : EI V k n) (hk : k < 16) : EI (deS V x) (k + 1) n := by
  obtain ⟨e1, e2, e3, e4⟩ := hE
  have h1 := e1.2.1
  unfold deS
  refine ⟨VaV_ne e1 (by omega) (by omega) (by omega) (by omega) (by omega) (by omega) (by omega), by rw [ne_n (by omega) (by omega) (by omega)]; exact e2, by rw [ne_0 h1.1]; omega, fun c c0 c1 => by rw [ne_n (by omega) (by omega) (by omega)]; exact e4 c c0 c1⟩
theorem deS_3 {k : Int} (hE : EI V k n) : deS V x 3 k = xN (xN x) / 65536 % 8 := by
  unfold deS
  rw [← hE.2.2.1, ne_3]
theorem deK_I (hV : EI V 0 n) (hx : xR x) (hn0 : 0 ≤ n) (hn1 : n ≤ 6) : ∀ {k : Nat}, k ≤ 16 → EI (deK V x n k).1 k n ∧ xR (deK V x n k).2
  | 0, _ => ⟨hV, hx⟩
  | k + 1, hk => by
    obtain ⟨hE, hxk⟩ := deK_I hV hx hn0 hn1 (k := k) (by omega)
    have hS := deS_I (x := (deK V x n k).2) hE (by omega)
    have h3 := deS_3 (x := (deK V x n k).2) hE
    have h1n := hS.2.2.2 (deS (deK V x n k).1 (deK V x n k).2 3 k) (by rw [h3]; omega) (by rw [h3]; omega)
    obtain ⟨a1, a2, a3⟩ := daK_I (V := deS (deK V x n k).1 (deK V x n k).2) (e := (k : Int)) (x := xN (xN (xN (deK V x n k).2))) hS.1 (by omega) (by rw [hS.2.2.1]; omega) xN_b (i := n.toNat) (by rw [h1n]; omega)
    rw [deK]
    refine ⟨⟨a1, by rw [a3 _ _ (by omega)]; exact hS.2.1, by rw [a3 _ _ (by omega), hS.2.2.1]; omega, fun c c0 c1 => by rw [a3 _ _ (by omega)]; exact hS.2.2.2 c c0 c1⟩, a2⟩
theorem an_D (hV : VaV V) : DI (oAnew V).2 0 n := by
  refine ⟨oAnew_V hV, ?_, ?_, fun c c0 c1 => by omega⟩
  · unfold oAnew
    dsimp only
    rw [up_n (by omega), up_s]
  · unfold oAnew
    dsimp only
    rw [up_s]
theorem dr_E (hV : VaV V) (hs : xR s) (hn0 : 0 ≤ n) (hn1 : n ≤ 6) : EI (dbK (oAnew V).2 s n 8).1 0 n ∧ xR (dbK (oAnew V).2 s n 8).2 := by
  obtain ⟨hD, hx⟩ := dbK_I (n := n) (an_D hV) hs hn0 hn1 (b := 8) (by omega)
  exact ⟨⟨hD.1, hD.2.1, hD.2.2.1, hD.2.2.2⟩, hx⟩
theorem oDraw_V (hV : VaV V) : VaV (oDraw V s n m).2 := by
  unfold oDraw
  split
  · rename_i hs
    split
    · rename_i hn
      split
      · rename_i hm
        have h := dr_E (s := s) hV ⟨hs.1, by omega⟩ hn.1 hn.2
        exact (deK_I h.1 h.2 hn.1 hn.2 (k := m.toNat) (by omega)).1.1
      · exact rB_V hV
    · exact rB_V hV
  · exact rB_V hV
end DRA
