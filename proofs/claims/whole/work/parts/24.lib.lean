/-! numbers and loops, for what the equations say -/
theorem iw_s {x : Int} (h : -2147483648 ≤ x ∧ x < 2147483648) : iw x = x := iw_id h.1 h.2
theorem iw_n {x : Int} (h0 : 0 ≤ x) (h : x < 2147483648) : iw x = x := iw_id (by omega) h
theorem tdv {a b : Int} (h : 0 ≤ a) : a.tdiv b = a / b := Int.tdiv_eq_ediv_of_nonneg h
theorem sbm {a b : Int} : a - a / b * b = a % b := by
  rw [Int.emod_def, Int.mul_comm]
def cno (x : Int) : Prop := -2147483648 ≤ x ∧ x < 2147483648
def anB (f : Int → Bool) : Nat → Bool
  | 0 => false
  | k + 1 => anB f k || f k
theorem anB_t {f : Int → Bool} : ∀ {k : Nat}, anB f k = true ↔ ∃ i : Int, 0 ≤ i ∧ i < k ∧ f i = true
  | 0 => by
    constructor
    · intro h; cases h
    · rintro ⟨i, h0, h1, -⟩; omega
  | k + 1 => by
    rw [anB, Bool.or_eq_true, anB_t (k := k)]
    constructor
    · rintro (⟨i, h0, h1, h2⟩ | h)
      · exact ⟨i, h0, by omega, h2⟩
      · exact ⟨k, by omega, by omega, h⟩
    · rintro ⟨i, h0, h1, h2⟩
      by_cases e : i = k
      · subst e; exact Or.inr h2
      · exact Or.inl ⟨i, h0, by omega, h2⟩
theorem anB_f {f : Int → Bool} {k : Nat} : anB f k = false ↔ ∀ i : Int, 0 ≤ i → i < k → f i = false := by
  constructor
  · intro h i h0 h1
    cases hf : f i with
    | false => rfl
    | true =>
      have := (anB_t (f := f) (k := k)).mpr ⟨i, h0, h1, hf⟩
      rw [h] at this
      cases this
  · intro h
    cases hf : anB f k with
    | false => rfl
    | true =>
      obtain ⟨i, h0, h1, h2⟩ := anB_t.mp hf
      rw [h i h0 h1] at h2
      cases h2
theorem anB_cong {f g : Int → Bool} : ∀ {k : Nat}, (∀ i : Int, 0 ≤ i → i < k → f i = g i) → anB f k = anB g k
  | 0, _ => rfl
  | k + 1, h => by rw [anB, anB, anB_cong (fun i h0 h1 => h i h0 (by omega)), h k (by omega) (by omega)]
theorem anB_s {f : Int → Bool} {i : Int} (h : 0 ≤ i) : anB f (i + 1).toNat = (anB f i.toNat || f i) := by
  have e : (i + 1).toNat = i.toNat + 1 := by omega
  have e2 : ((i.toNat : Nat) : Int) = i := by omega
  rw [e, anB, e2]
def cnB (f : Int → Bool) : Nat → Int
  | 0 => 0
  | k + 1 => cnB f k + (if f k then 1 else 0)
theorem cnB_b {f : Int → Bool} : ∀ {k : Nat}, 0 ≤ cnB f k ∧ cnB f k ≤ k
  | 0 => by simp [cnB]
  | k + 1 => by
    have h := cnB_b (f := f) (k := k)
    rw [cnB]
    split <;> omega
theorem cnB_cong {f g : Int → Bool} : ∀ {k : Nat}, (∀ i : Int, 0 ≤ i → i < k → f i = g i) → cnB f k = cnB g k
  | 0, _ => rfl
  | k + 1, h => by rw [cnB, cnB, cnB_cong (fun i h0 h1 => h i h0 (by omega)), h k (by omega) (by omega)]
theorem cnB_s {f : Int → Bool} {i : Int} (h : 0 ≤ i) : cnB f (i + 1).toNat = cnB f i.toNat + (if f i then 1 else 0) := by
  have e : (i + 1).toNat = i.toNat + 1 := by omega
  have e2 : ((i.toNat : Nat) : Int) = i := by omega
  rw [e, cnB, e2]
/-- a loop that counts up -/
theorem lp {α : Type} {F : Int → Option α} {R : Option α} {n : Int} (hs : ∀ i, 0 ≤ i → i < n → F (i + 1) = R → F i = R) (he : F n = R) : ∀ i, 0 ≤ i → i ≤ n → F i = R := by
  have h : ∀ (k : Nat) (i : Int), 0 ≤ i → i ≤ n → n - i = k → F i = R := by
    intro k
    induction k with
    | zero =>
      intro i h0 h1 h2
      have : i = n := by omega
      rw [this]
      exact he
    | succ k ih =>
      intro i h0 h1 h2
      exact hs i h0 (by omega) (ih (i + 1) (by omega) (by omega) (by omega))
  exact fun i h0 h1 => h (n - i).toNat i h0 h1 (by omega)
theorem lpx {α σ : Type} {F : Int → σ → Option α} {I : Int → σ → Prop} {P : Option α → Prop} {n : Int} (hs : ∀ i s, 0 ≤ i → i < n → I i s → (∀ s', I (i + 1) s' → P (F (i + 1) s')) → P (F i s)) (he : ∀ s, I n s → P (F n s)) : ∀ i s, 0 ≤ i → i ≤ n → I i s → P (F i s) := by
  have h : ∀ (k : Nat) (i : Int) (s : σ), 0 ≤ i → i ≤ n → n - i = k → I i s → P (F i s) := by
    intro k
    induction k with
    | zero =>
      intro i s h0 h1 h2 hI
      have : i = n := by omega
      subst this
      exact he s hI
    | succ k ih =>
      intro i s h0 h1 h2 hI
      exact hs i s h0 (by omega) hI (fun s' hI' => ih (i + 1) s' (by omega) (by omega) (by omega) hI')
  exact fun i s h0 h1 => h (n - i).toNat i s h0 h1 (by omega)
theorem bnd {α β : Type} {a : α} {f : α → Option β} : (some a).bind f = f a := rfl
theorem up_s {g : AMem} {a k x : Int} : up g a k x a k = x := if_pos ⟨rfl, rfl⟩
theorem up_n {g : AMem} {a k x a' k' : Int} (h : a' ≠ a ∨ k' ≠ k) : up g a k x a' k' = g a' k' := if_neg (by omega)
/-! regions -/
def isW (w : Int) : Bool := decide (w = 1 ∨ w = 2 ∨ w = 4)
def isRg (r : Int) : Bool := decide (0 ≤ r ∧ (r % 10 = 1 ∨ r % 10 = 2 ∨ r % 10 = 4) ∧ r / 10 % (r % 10) = 0 ∧ r / 10 + r % 10 ≤ 32)
def shB (a c : Int) : Bool := decide (a / 10 < c / 10 + c % 10 ∧ c / 10 < a / 10 + a % 10)
theorem isRg_b {r : Int} (h : isRg r = true) : 1 ≤ r ∧ r ≤ 319 := by
  unfold isRg at h
  simp only [decide_eq_true_eq] at h
  omega
section RGN
variable {L : Nat} {g : AMem} {r a c w : Int}
theorem cRg_firstByte (h0 : 0 ≤ r) (h1 : r < 2147483648) : jRg_firstByte L r g = some (r / 10, g) := by
  rw [jRg_firstByte_eq, tdv h0, iw_n (by omega) (by omega)]
theorem cRg_width (h0 : 0 ≤ r) (h1 : r < 2147483648) : jRg_width L r g = some (r % 10, g) := by
  rw [jRg_width_eq, tdv h0, sbm, iw_n (by omega) (by omega)]
theorem cRg_isWidth : jRg_isWidth L w g = some (if isW w then 1 else 0, g) := by
  rw [jRg_isWidth_eq]
  unfold isW
  simp only [decide_eq_true_eq]
  repeat' split
  all_goals first
    | rfl
    | omega
theorem cRg_shareByte (h0 : 0 ≤ a) (h1 : a < 1000000) (h2 : 0 ≤ c) (h3 : c < 1000000) : jRg_shareByte L a c g = some (if shB a c then 1 else 0, g) := by
  rw [jRg_shareByte_eq]
  simp only [cRg_firstByte h0 (show a < 2147483648 by omega), cRg_width h0 (show a < 2147483648 by omega), cRg_firstByte h2 (show c < 2147483648 by omega), cRg_width h2 (show c < 2147483648 by omega), bnd]
  rw [iw_n (show 0 ≤ c / 10 + c % 10 by omega) (by omega), iw_n (show 0 ≤ a / 10 + a % 10 by omega) (by omega)]
  unfold shB
  simp only [decide_eq_true_eq]
  repeat' split
  all_goals first
    | rfl
    | omega
theorem cM_byteOf (h0 : 0 ≤ r) (h1 : r < 2147483648) : jM_byteOf L r g = some (r / 10, g) := by
  rw [jM_byteOf_eq, tdv h0, iw_n (by omega) (by omega)]
theorem cM_widthOf (h0 : 0 ≤ r) (h1 : r < 2147483648) : jM_widthOf L r g = some (r % 10, g) := by
  rw [jM_widthOf_eq, tdv h0, sbm, iw_n (by omega) (by omega)]
theorem cM_isWidth : jM_isWidth L w g = some (if isW w then 1 else 0, g) := by
  rw [jM_isWidth_eq]
  unfold isW
  simp only [decide_eq_true_eq]
  repeat' split
  all_goals first
    | rfl
    | omega
theorem cM_meet (h0 : 0 ≤ a) (h1 : a < 1000000) (h2 : 0 ≤ c) (h3 : c < 1000000) : jM_meet L a c g = some (if shB a c then 1 else 0, g) := by
  rw [jM_meet_eq]
  simp only [cM_byteOf h0 (show a < 2147483648 by omega), cM_widthOf h0 (show a < 2147483648 by omega), cM_byteOf h2 (show c < 2147483648 by omega), cM_widthOf h2 (show c < 2147483648 by omega), bnd]
  rw [iw_n (show 0 ≤ c / 10 + c % 10 by omega) (by omega), iw_n (show 0 ≤ a / 10 + a % 10 by omega) (by omega)]
  unfold shB
  simp only [decide_eq_true_eq]
  repeat' split
  all_goals first
    | rfl
    | omega
theorem cRg_areAcross (h0 : 0 ≤ a) (h1 : a < 1000000) (h2 : 0 ≤ c) (h3 : c < 1000000) : jRg_areAcross L a c g = some (if a ≠ c ∧ shB a c = true then 1 else 0, g) := by
  rw [jRg_areAcross_eq]
  simp only [cRg_shareByte h0 h1 h2 h3, bnd]
  repeat' split
  all_goals first
    | rfl
    | (simp_all; done)
    | omega
theorem cM_across (h0 : 0 ≤ a) (h1 : a < 1000000) (h2 : 0 ≤ c) (h3 : c < 1000000) : jM_across L a c g = some (if a ≠ c ∧ shB a c = true then 1 else 0, g) := by
  rw [jM_across_eq]
  simp only [cM_meet h0 h1 h2 h3, bnd]
  repeat' split
  all_goals first
    | rfl
    | (simp_all; done)
    | omega
end RGN
