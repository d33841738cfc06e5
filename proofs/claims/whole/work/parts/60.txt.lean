/-! the text: what is read of it -/
def isF (c : Int) : Bool := decide (48 ≤ c ∧ c ≤ 57)
def skF (V : AMem) : Nat → Int → Int
  | 0, p => p
  | k + 1, p => if V 5 p = 32 then skF V k (p + 1) else p
def skT (V : AMem) (p : Int) : Int := skF V (V 0 6 - p).toNat p
def fgF (V : AMem) : Nat → Int → Int
  | 0, _ => 0
  | k + 1, p => if isF (V 5 p) = true then fgF V k (p + 1) + 1 else 0
def fgT (V : AMem) (p : Int) : Int := fgF V (V 0 6 - p).toNat p
def nvT (V : AMem) (q : Int) : Nat → Int
  | 0 => 0
  | k + 1 => 10 * nvT V q k + V 5 (q + k) - 48
def numV (V : AMem) (p : Int) : Int := nvT V p (fgT V p).toNat
def numB (V : AMem) (p lo hi : Int) : Bool := decide (1 ≤ fgT V p ∧ fgT V p ≤ 3 ∧ lo ≤ numV V p ∧ numV V p ≤ hi)
abbrev PRes : Type := Bool × (Int × AMem)
def pEnd (V W : AMem) (p : Int) : PRes := if skT V p < V 0 6 ∧ V 5 (skT V p) = 59 then (true, skT V p + 1, W) else (false, skT V p, W)
def pPar (V : AMem) (b : Int) : Nat → AMem → Int → PRes
  | 0, W, p => (false, p, W)
  | k + 1, W, p => if skT V p < V 0 6 ∧ isF (V 5 (skT V p)) = true then (if W 1 b = 6 then (false, skT V p, W) else if numB V (skT V p) 0 999 = true ∧ isRg (numV V (skT V p)) = true ∧ tkB W b (numV V (skT V p)) = false then pPar V b k (npV W b (numV V (skT V p))) (skT V p + fgT V (skT V p)) else (false, skT V p, W)) else pEnd V W p
def pBlk (V W : AMem) (p : Int) : PRes := if W 0 0 = 10 then (false, p, W) else pPar V (W 0 0) 7 (nbV W) (p + 1)
def pGiv (V W : AMem) (e i p : Int) : PRes := if skT V p < V 0 6 ∧ V 5 (skT V p) = 35 then (if numB V (skT V p + 1) 0 99 = true then (true, skT V p + 1 + fgT V (skT V p + 1), up W (20 + e) i (-1 - numV V (skT V p + 1))) else (false, skT V p, W)) else if numB V (skT V p) 0 999 = true ∧ isRg (numV V (skT V p)) = true ∧ numV V (skT V p) % 10 = W (10 + W 3 e) i % 10 then (true, skT V p + fgT V (skT V p), up W (20 + e) i (numV V (skT V p))) else (false, skT V p, W)
def pArg (V : AMem) (e : Int) : Nat → AMem → Int → Int → PRes
  | 0, W, _, p => pEnd V W p
  | k + 1, W, i, p => if (pGiv V W e i p).1 = true then pArg V e k (pGiv V W e i p).2.2 (i + 1) (pGiv V W e i p).2.1 else (false, (pGiv V W e i p).2.1, W)
def pEd4 (V W : AMem) (e p : Int) : PRes := if skT V p < V 0 6 ∧ V 5 (skT V p) = 58 then (if W 1 (W 3 e) = 0 then (false, skT V p, W) else pArg V e (W 1 (W 3 e)).toNat W 0 (skT V p + 1)) else pEnd V W p
def pEd3 (V W : AMem) (f t p : Int) : PRes := if numB V (skT V p) 0 99 = true then pEd4 V (neV W f t (numV V (skT V p))) (W 0 1) (skT V p + fgT V (skT V p)) else (false, skT V p, W)
def pEd2 (V W : AMem) (f p : Int) : PRes := if numB V (skT V p) 0 (W 0 0 - 1) = true then pEd3 V W f (numV V (skT V p)) (skT V p + fgT V (skT V p)) else (false, skT V p, W)
def pEd1 (V W : AMem) (p : Int) : PRes := if numB V (skT V p) 0 (W 0 0 - 1) = true then pEd2 V W (numV V (skT V p)) (skT V p + fgT V (skT V p)) else (false, skT V p, W)
def pEdg (V W : AMem) (p : Int) : PRes := if W 0 1 = 16 then (false, p, W) else pEd1 V W (p + 1)
def pIt1 (V W : AMem) (q : Int) : PRes := if V 5 q = 98 then pBlk V W q else if V 5 q = 101 then pEdg V W q else (false, q, W)
def pIte (V : AMem) : Nat → AMem → Int → Int → Int × AMem
  | 0, W, _, _ => (-300, W)
  | k + 1, W, p, c => if V 0 6 ≤ skT V p then (if c = 0 then -300 - skT V p else c, W) else if (pIt1 V W (skT V p)).1 = true then pIte V k (pIt1 V W (skT V p)).2.2 (pIt1 V W (skT V p)).2.1 (c + 1) else (-300 - (pIt1 V W (skT V p)).2.1, (pIt1 V W (skT V p)).2.2)
def oRead (V : AMem) : Int × AMem := if 0 < (pIte V 122 (oAnew V).2 0 0).1 then pIte V 122 (oAnew V).2 0 0 else ((pIte V 122 (oAnew V).2 0 0).1, V)
section TXT
variable {V W : AMem} {b c e f hi i j lo n p q t w x : Int} {k : Nat}
theorem skT_e : skT V p = if p < V 0 6 ∧ V 5 p = 32 then skT V (p + 1) else p := by
  unfold skT
  by_cases h : p < V 0 6
  · rw [show (V 0 6 - p).toNat = (V 0 6 - (p + 1)).toNat + 1 by omega, skF]
    by_cases h2 : V 5 p = 32
    · rw [if_pos h2, if_pos ⟨h, h2⟩]
    · rw [if_neg h2, if_neg (fun q => h2 q.2)]
  · rw [show (V 0 6 - p).toNat = 0 by omega, skF, if_neg (fun q => h q.1)]
theorem skF_b : ∀ {k : Nat} {p : Int}, p ≤ skF V k p ∧ skF V k p ≤ p + k
  | 0, p => by
    rw [skF]
    omega
  | k + 1, p => by
    rw [skF]
    split
    · have := skF_b (k := k) (p := p + 1)
      omega
    · omega
theorem skT_b (h : p ≤ V 0 6) : p ≤ skT V p ∧ skT V p ≤ V 0 6 := by
  have := skF_b (V := V) (k := (V 0 6 - p).toNat) (p := p)
  unfold skT
  omega
theorem skT_n : ∀ (k : Nat) (p : Int), V 0 6 - p ≤ k → skT V p < V 0 6 → V 5 (skT V p) ≠ 32
  | 0, p, h, h1 => by
    rw [skT_e, if_neg (by omega)] at h1
    omega
  | k + 1, p, h, h1 => by
    rw [skT_e] at h1 ⊢
    by_cases q : p < V 0 6 ∧ V 5 p = 32
    · rw [if_pos q] at h1 ⊢
      exact skT_n k (p + 1) (by omega) h1
    · rw [if_neg q] at h1 ⊢
      exact fun q2 => q ⟨h1, q2⟩
theorem skT_i : skT V (skT V p) = skT V p := by
  rw [skT_e, if_neg (fun q => skT_n (V 0 6 - p).toNat p (by omega) q.1 q.2)]
theorem fgT_e : fgT V p = if p < V 0 6 ∧ isF (V 5 p) = true then fgT V (p + 1) + 1 else 0 := by
  unfold fgT
  by_cases h : p < V 0 6
  · rw [show (V 0 6 - p).toNat = (V 0 6 - (p + 1)).toNat + 1 by omega, fgF]
    by_cases h2 : isF (V 5 p) = true
    · rw [if_pos h2, if_pos ⟨h, h2⟩]
    · rw [if_neg h2, if_neg (fun q => h2 q.2)]
  · rw [show (V 0 6 - p).toNat = 0 by omega, fgF, if_neg (fun q => h q.1)]
theorem fgF_b : ∀ {k : Nat} {p : Int}, 0 ≤ fgF V k p ∧ fgF V k p ≤ k
  | 0, p => by
    rw [fgF]
    omega
  | k + 1, p => by
    have := fgF_b (k := k) (p := p + 1)
    rw [fgF]
    split <;> omega
theorem fgT_b : 0 ≤ fgT V p ∧ (p ≤ V 0 6 → p + fgT V p ≤ V 0 6) := by
  have := fgF_b (V := V) (k := (V 0 6 - p).toNat) (p := p)
  unfold fgT
  omega
theorem fgT_f : ∀ (k : Nat) (p j : Int), fgT V p ≤ k → 0 ≤ j → j < fgT V p → p + j < V 0 6 ∧ isF (V 5 (p + j)) = true
  | 0, p, j, h, h0, h1 => by omega
  | k + 1, p, j, h, h0, h1 => by
    rw [fgT_e] at h h1
    by_cases q : p < V 0 6 ∧ isF (V 5 p) = true
    · rw [if_pos q] at h h1
      by_cases e : j = 0
      · rw [e, show p + 0 = p by omega]
        exact q
      · have := fgT_f k (p + 1) (j - 1) (by omega) (by omega) (by omega)
        rw [show p + 1 + (j - 1) = p + j by omega] at this
        exact this
    · rw [if_neg q] at h1
      omega
theorem isF_i : isF c = true ↔ 48 ≤ c ∧ c ≤ 57 := by
  unfold isF
  simp
theorem fgT_d (h0 : 0 ≤ j) (h1 : j < fgT V p) : p + j < V 0 6 ∧ 48 ≤ V 5 (p + j) ∧ V 5 (p + j) ≤ 57 := by
  have := fgT_f (V := V) (fgT V p).toNat p j (by omega) h0 h1
  rw [isF_i] at this
  exact this
theorem nvT_b (h : (k : Int) ≤ fgT V p) (h3 : k ≤ 3) : 0 ≤ nvT V p k ∧ nvT V p k ≤ 999 ∧ (k ≤ 2 → nvT V p k ≤ 99) ∧ (k ≤ 1 → nvT V p k ≤ 9) ∧ (k = 0 → nvT V p k = 0) := by
  have d : ∀ j : Nat, j < k → 48 ≤ V 5 (p + j) ∧ V 5 (p + j) ≤ 57 := fun j hj => (fgT_d (V := V) (p := p) (j := j) (by omega) (by omega)).2
  match k, h3, d with
  | 0, _, _ =>
    simp [nvT]
  | 1, _, d =>
    have d0 := d 0 (by omega)
    simp only [nvT]
    refine ⟨by omega, by omega, fun _ => by omega, fun _ => by omega, fun h => by omega⟩
  | 2, _, d =>
    have d0 := d 0 (by omega)
    have d1 := d 1 (by omega)
    simp only [nvT]
    refine ⟨by omega, by omega, fun _ => by omega, fun h => by omega, fun h => by omega⟩
  | 3, _, d =>
    have d0 := d 0 (by omega)
    have d1 := d 1 (by omega)
    have d2 := d 2 (by omega)
    simp only [nvT]
    refine ⟨by omega, by omega, fun h => by omega, fun h => by omega, fun h => by omega⟩
theorem nvT_s (h : 0 ≤ i) : nvT V p (i + 1).toNat = 10 * nvT V p i.toNat + V 5 (p + i) - 48 := by
  have e1 : (i + 1).toNat = i.toNat + 1 := by omega
  have e2 : ((i.toNat : Nat) : Int) = i := by omega
  rw [e1, nvT, e2]
theorem numV_b (h : fgT V p ≤ 3) : 0 ≤ numV V p ∧ numV V p ≤ 999 := by
  have hb := fgT_b (V := V) (p := p)
  have := nvT_b (V := V) (p := p) (k := (fgT V p).toNat) (by omega) (by omega)
  unfold numV
  omega
end TXT
