def SHT : List AShp := [(9, 14, [0, 0, 113, 115, 116, 118, 125, 132, 135, 136, 0, 0, 0, 0]), (3, 4, [4, 25, 0, 0]), (22, 10, [5, 7, 9, 11, 13, 15, 17, 19, 21, 23]), (0, 2, [6, 0]), (20, 6, []), (0, 2, [8, 0]), (20, 6, []), (0, 2, [10, 0]), (20, 6, []), (0, 2, [12, 0]), (20, 6, []), (0, 2, [14, 0]), (20, 6, []), (0, 2, [16, 0]), (20, 6, []), (0, 2, [18, 0]), (20, 6, []), (0, 2, [20, 0]), (20, 6, []), (0, 2, [22, 0]), (20, 6, []), (0, 2, [24, 0]), (20, 6, []), (23, 16, [26, 28, 30, 32, 34, 36, 38, 40, 42, 44, 46, 48, 50, 52, 54, 56]), (2, 4, [27, 0, 0, 0]), (20, 6, []), (2, 4, [29, 0, 0, 0]), (20, 6, []), (2, 4, [31, 0, 0, 0]), (20, 6, []), (2, 4, [33, 0, 0, 0]), (20, 6, []), (2, 4, [35, 0, 0, 0]), (20, 6, []), (2, 4, [37, 0, 0, 0]), (20, 6, []), (2, 4, [39, 0, 0, 0]), (20, 6, []), (2, 4, [41, 0, 0, 0]), (20, 6, []), (2, 4, [43, 0, 0, 0]), (20, 6, []), (2, 4, [45, 0, 0, 0]), (20, 6, []), (2, 4, [47, 0, 0, 0]), (20, 6, []), (2, 4, [49, 0, 0, 0]), (20, 6, []), (2, 4, [51, 0, 0, 0]), (20, 6, []), (2, 4, [53, 0, 0, 0]), (20, 6, []), (2, 4, [55, 0, 0, 0]), (20, 6, []), (2, 4, [57, 0, 0, 0]), (20, 6, []), (3, 4, [59, 80, 0, 0]), (22, 10, [60, 62, 64, 66, 68, 70, 72, 74, 76, 78]), (0, 2, [61, 0]), (20, 6, []), (0, 2, [63, 0]), (20, 6, []), (0, 2, [65, 0]), (20, 6, []), (0, 2, [67, 0]), (20, 6, []), (0, 2, [69, 0]), (20, 6, []), (0, 2, [71, 0]), (20, 6, []), (0, 2, [73, 0]), (20, 6, []), (0, 2, [75, 0]), (20, 6, []), (0, 2, [77, 0]), (20, 6, []), (0, 2, [79, 0]), (20, 6, []), (23, 16, [81, 83, 85, 87, 89, 91, 93, 95, 97, 99, 101, 103, 105, 107, 109, 111]), (2, 4, [82, 0, 0, 0]), (20, 6, []), (2, 4, [84, 0, 0, 0]), (20, 6, []), (2, 4, [86, 0, 0, 0]), (20, 6, []), (2, 4, [88, 0, 0, 0]), (20, 6, []), (2, 4, [90, 0, 0, 0]), (20, 6, []), (2, 4, [92, 0, 0, 0]), (20, 6, []), (2, 4, [94, 0, 0, 0]), (20, 6, []), (2, 4, [96, 0, 0, 0]), (20, 6, []), (2, 4, [98, 0, 0, 0]), (20, 6, []), (2, 4, [100, 0, 0, 0]), (20, 6, []), (2, 4, [102, 0, 0, 0]), (20, 6, []), (2, 4, [104, 0, 0, 0]), (20, 6, []), (2, 4, [106, 0, 0, 0]), (20, 6, []), (2, 4, [108, 0, 0, 0]), (20, 6, []), (2, 4, [110, 0, 0, 0]), (20, 6, []), (2, 4, [112, 0, 0, 0]), (20, 6, []), (8, 2, [114, 0]), (20, 120, []), (7, 4, [113, 0, 0, 0]), (4, 3, [0, 0, 0]), (20, 6, []), (6, 10, [119, 120, 121, 0, 0, 0, 0, 123, 124, 0]), (20, 9, []), (20, 9, []), (20, 9, []), (20, 6, []), (20, 6, []), (21, 6, []), (6, 10, [126, 127, 128, 0, 0, 0, 0, 130, 131, 0]), (20, 9, []), (20, 9, []), (20, 9, []), (20, 6, []), (20, 6, []), (21, 6, []), (5, 2, [133, 134]), (20, 36, []), (20, 36, []), (1, 1, [0]), (20, 10, []), (10, 28, [138, 0, 0, 0, 139, 140, 141, 142, 143, 144, 0, 145, 146, 147, 148, 149, 0, 150, 151, 152, 153, 154, 155, 156, 0, 0, 0, 157]), (20, 3, []), (20, 10, []), (20, 60, []), (20, 16, []), (20, 16, []), (20, 16, []), (20, 96, []), (20, 24, []), (20, 24, []), (20, 24, []), (21, 6, []), (20, 6, []), (20, 24, []), (20, 24, []), (20, 24, []), (20, 36, []), (20, 32, []), (20, 10, []), (20, 120, []), (20, 216, [])]
def SH (L : Nat) : List AShp := (99, 0, []) :: (30, L, []) :: SHT
def sD (k : Nat) : AShp := SHT.getD k (97, 0, [])
def sFact (k : Nat) : Bool :=
  (!((sD k).1 == 0) || (decide ((sD k).2.2.getD 0 0 = (k : Int) + 3) && decide (sD (k + 1) = (20, 6, [])))) &&
  (!((sD k).1 == 2) || (decide ((sD k).2.2.getD 0 0 = (k : Int) + 3) && decide (sD (k + 1) = (20, 6, [])))) &&
  (!((sD k).1 == 3) || (decide (k = 1 ∨ k = 56) && decide ((sD k).2.2 = [(k : Int) + 3, (k : Int) + 24, 0, 0]) && decide ((sD (k + 1)).1 = 22 ∧ (sD (k + 1)).2.1 = 10 ∧ (sD (k + 22)).1 = 23 ∧ (sD (k + 22)).2.1 = 16)
    && (List.range 10).all (fun i => decide ((sD (k + 1)).2.2.getD i 0 = (k : Int) + 4 + 2 * i ∧ (sD (k + 2 + 2 * i)).1 = 0)) && (List.range 16).all (fun i => decide ((sD (k + 22)).2.2.getD i 0 = (k : Int) + 25 + 2 * i ∧ (sD (k + 23 + 2 * i)).1 = 2)))) &&
  (!((sD k).1 == 6) || (decide (k = 116 ∨ k = 123) && decide ((sD k).2.2 = [(k : Int) + 3, (k : Int) + 4, (k : Int) + 5, 0, 0, 0, 0, (k : Int) + 7, (k : Int) + 8, 0]) && decide (sD (k + 1) = (20, 9, []) ∧ sD (k + 2) = (20, 9, []) ∧ sD (k + 3) = (20, 9, []) ∧ sD (k + 5) = (20, 6, []) ∧ sD (k + 6) = (21, 6, []))))
theorem sFact_all : ∀ k, k < 156 → sFact k = true := by
  have h : (List.range 156).all sFact = true := by decide +kernel
  exact fun k hk => List.all_eq_true.mp h k (List.mem_range.mpr hk)
theorem sh_at {L : Nat} {t : Int} {k : Nat} (h : t = (k : Int) + 2) (hk : k < 156) : (SH L)[t.toNat]? = some (sD k) := by
  have e : t.toNat = k + 2 := by omega
  rw [e]
  show SHT[k]? = some (sD k)
  have hl : SHT.length = 156 := by decide +kernel
  unfold sD
  rw [List.getD_eq_getElem?_getD, List.getElem?_eq_getElem (by omega)]
  rfl
theorem kin_k {L c : Nat} {t : Int} (h : kin (SH L) t = c) (hc : c < 90) (hc2 : c ≠ 30) : ∃ k : Nat, k < 156 ∧ t = (k : Int) + 2 ∧ (sD k).1 = c := by
  obtain ⟨s, hs, h1, h2⟩ := kin_of h hc
  have hl := (List.getElem?_eq_some_iff.mp hs).1
  have hl2 : (SH L).length = 158 := rfl
  refine ⟨t.toNat - 2, by omega, by omega, ?_⟩
  have := sh_at (L := L) (t := t) (k := t.toNat - 2) (by omega) (by omega)
  rw [hs] at this
  cases this
  exact h1
section SHF
variable {L k : Nat} {t i : Int}
theorem kin_at (h : t = (k : Int) + 2) (hk : k < 156) : kin (SH L) t = (sD k).1 := by
  unfold kin
  rw [sh_at h hk]
  exact if_pos (by omega)
theorem fin_at (h : t = (k : Int) + 2) (hk : k < 156) (y : Nat) : fin_ (SH L) t y = (sD k).2.2.getD y 0 := by
  unfold fin_
  rw [sh_at h hk]
theorem aln_at (h : t = (k : Int) + 2) (hk : k < 156) (h20 : (sD k).1 = 20) : aln (SH L) t = (sD k).2.1 := by
  unfold aln
  rw [sh_at h hk]
  exact if_pos (Or.inl h20)
theorem bln_at (h : t = (k : Int) + 2) (hk : k < 156) (h20 : (sD k).1 = 21) : bln (SH L) t = (sD k).2.1 := by
  unfold bln
  rw [sh_at h hk]
  exact if_pos h20
theorem rln_at (h : t = (k : Int) + 2) (hk : k < 156) (h20 : (sD k).1 = 22 ∨ (sD k).1 = 23) : rln (SH L) t = (sD k).2.1 := by
  unfold rln
  rw [sh_at h hk]
  exact if_pos h20
theorem nxt (hk : k < 156) (h : (sD (k + 1)).1 < 90) : k + 1 < 156 := by
  rcases Nat.lt_or_ge (k + 1) 156 with h1 | h1
  · exact h1
  · have e : k = 155 := by omega
    subst e
    exact absurd h (by decide +kernel)
theorem kB (h : kin (SH L) t = 0) : fin_ (SH L) t 0 = t + 1 ∧ aln (SH L) (t + 1) = 6 := by
  obtain ⟨k, hk, e, h1⟩ := kin_k h (by decide) (by decide)
  have hf := sFact_all k hk
  unfold sFact at hf
  rw [h1] at hf
  simp at hf
  have hn := nxt hk (by rw [hf.2]; decide)
  refine ⟨?_, ?_⟩
  · rw [fin_at e hk, List.getD_eq_getElem?_getD, hf.1]; omega
  · rw [aln_at (k := k + 1) (by omega) hn (by rw [hf.2]), hf.2]; rfl
theorem kE (h : kin (SH L) t = 2) : fin_ (SH L) t 0 = t + 1 ∧ aln (SH L) (t + 1) = 6 := by
  obtain ⟨k, hk, e, h1⟩ := kin_k h (by decide) (by decide)
  have hf := sFact_all k hk
  unfold sFact at hf
  rw [h1] at hf
  simp at hf
  have hn := nxt hk (by rw [hf.2]; decide)
  refine ⟨?_, ?_⟩
  · rw [fin_at e hk, List.getD_eq_getElem?_getD, hf.1]; omega
  · rw [aln_at (k := k + 1) (by omega) hn (by rw [hf.2]), hf.2]; rfl
theorem kG (h : kin (SH L) t = 3) : t = 3 ∨ t = 58 := by
  obtain ⟨k, hk, e, h1⟩ := kin_k h (by decide) (by decide)
  have hf := sFact_all k hk
  unfold sFact at hf
  rw [h1] at hf
  simp only [Bool.and_eq_true, decide_eq_true_eq] at hf
  have h3 : k = 1 ∨ k = 56 := by
    have := hf.1.2
    simp at this
    exact this.1.1.1.1
  omega
theorem kG' (h : t = 3 ∨ t = 58) : kin (SH L) t = 3 := by rcases h with rfl | rfl <;> rfl
theorem kG_f (h : kin (SH L) t = 3) : fin_ (SH L) t 0 = t + 1 ∧ fin_ (SH L) t 1 = t + 22 ∧ rln (SH L) (t + 1) = 10 ∧ rln (SH L) (t + 22) = 16 := by
  rcases kG h with rfl | rfl <;> exact ⟨rfl, rfl, rfl, rfl⟩
theorem kG_b (h : kin (SH L) t = 3) (h0 : 0 ≤ i) (h1 : i < 10) : fin_ (SH L) (t + 1) i.toNat = t + 2 + 2 * i ∧ kin (SH L) (t + 2 + 2 * i) = 0 := by
  have hh : ∀ q : Nat, q < 10 → (fin_ (SH L) (3 + 1) q = 3 + 2 + 2 * (q : Int) ∧ kin (SH L) (3 + 2 + 2 * (q : Int)) = 0) ∧ (fin_ (SH L) (58 + 1) q = 58 + 2 + 2 * (q : Int) ∧ kin (SH L) (58 + 2 + 2 * (q : Int)) = 0) := by
    intro q hq
    match q, hq with
    | 0, _ => exact ⟨⟨rfl, rfl⟩, rfl, rfl⟩
    | 1, _ => exact ⟨⟨rfl, rfl⟩, rfl, rfl⟩
    | 2, _ => exact ⟨⟨rfl, rfl⟩, rfl, rfl⟩
    | 3, _ => exact ⟨⟨rfl, rfl⟩, rfl, rfl⟩
    | 4, _ => exact ⟨⟨rfl, rfl⟩, rfl, rfl⟩
    | 5, _ => exact ⟨⟨rfl, rfl⟩, rfl, rfl⟩
    | 6, _ => exact ⟨⟨rfl, rfl⟩, rfl, rfl⟩
    | 7, _ => exact ⟨⟨rfl, rfl⟩, rfl, rfl⟩
    | 8, _ => exact ⟨⟨rfl, rfl⟩, rfl, rfl⟩
    | 9, _ => exact ⟨⟨rfl, rfl⟩, rfl, rfl⟩
    | q + 10, h => exact absurd h (by omega)
  have h2 := hh i.toNat (by omega)
  have e : ((i.toNat : Nat) : Int) = i := by omega
  rw [e] at h2
  rcases kG h with rfl | rfl
  · exact h2.1
  · exact h2.2
theorem kG_e (h : kin (SH L) t = 3) (h0 : 0 ≤ i) (h1 : i < 16) : fin_ (SH L) (t + 22) i.toNat = t + 23 + 2 * i ∧ kin (SH L) (t + 23 + 2 * i) = 2 := by
  have hh : ∀ q : Nat, q < 16 → (fin_ (SH L) (3 + 22) q = 3 + 23 + 2 * (q : Int) ∧ kin (SH L) (3 + 23 + 2 * (q : Int)) = 2) ∧ (fin_ (SH L) (58 + 22) q = 58 + 23 + 2 * (q : Int) ∧ kin (SH L) (58 + 23 + 2 * (q : Int)) = 2) := by
    intro q hq
    match q, hq with
    | 0, _ => exact ⟨⟨rfl, rfl⟩, rfl, rfl⟩
    | 1, _ => exact ⟨⟨rfl, rfl⟩, rfl, rfl⟩
    | 2, _ => exact ⟨⟨rfl, rfl⟩, rfl, rfl⟩
    | 3, _ => exact ⟨⟨rfl, rfl⟩, rfl, rfl⟩
    | 4, _ => exact ⟨⟨rfl, rfl⟩, rfl, rfl⟩
    | 5, _ => exact ⟨⟨rfl, rfl⟩, rfl, rfl⟩
    | 6, _ => exact ⟨⟨rfl, rfl⟩, rfl, rfl⟩
    | 7, _ => exact ⟨⟨rfl, rfl⟩, rfl, rfl⟩
    | 8, _ => exact ⟨⟨rfl, rfl⟩, rfl, rfl⟩
    | 9, _ => exact ⟨⟨rfl, rfl⟩, rfl, rfl⟩
    | 10, _ => exact ⟨⟨rfl, rfl⟩, rfl, rfl⟩
    | 11, _ => exact ⟨⟨rfl, rfl⟩, rfl, rfl⟩
    | 12, _ => exact ⟨⟨rfl, rfl⟩, rfl, rfl⟩
    | 13, _ => exact ⟨⟨rfl, rfl⟩, rfl, rfl⟩
    | 14, _ => exact ⟨⟨rfl, rfl⟩, rfl, rfl⟩
    | 15, _ => exact ⟨⟨rfl, rfl⟩, rfl, rfl⟩
    | q + 16, h => exact absurd h (by omega)
  have h2 := hh i.toNat (by omega)
  have e : ((i.toNat : Nat) : Int) = i := by omega
  rw [e] at h2
  rcases kG h with rfl | rfl
  · exact h2.1
  · exact h2.2
theorem kP (h : kin (SH L) t = 6) : t = 118 ∨ t = 125 := by
  obtain ⟨k, hk, e, h1⟩ := kin_k h (by decide) (by decide)
  have hf := sFact_all k hk
  unfold sFact at hf
  rw [h1] at hf
  simp only [Bool.and_eq_true, decide_eq_true_eq] at hf
  have h3 : k = 116 ∨ k = 123 := by
    have := hf.2
    simp at this
    exact this.1.1
  omega
theorem kP' (h : t = 118 ∨ t = 125) : kin (SH L) t = 6 := by rcases h with rfl | rfl <;> rfl
theorem kP_f (h : kin (SH L) t = 6) : fin_ (SH L) t 0 = t + 1 ∧ fin_ (SH L) t 1 = t + 2 ∧ fin_ (SH L) t 2 = t + 3 ∧ fin_ (SH L) t 7 = t + 5 ∧ fin_ (SH L) t 8 = t + 6 ∧ aln (SH L) (t + 1) = 9 ∧ aln (SH L) (t + 2) = 9 ∧ aln (SH L) (t + 3) = 9 ∧ aln (SH L) (t + 5) = 6 ∧ bln (SH L) (t + 6) = 6 := by
  rcases kP h with rfl | rfl <;> exact ⟨rfl, rfl, rfl, rfl, rfl, rfl, rfl, rfl, rfl, rfl⟩
end SHF
section QRS
variable {β : Type} {T : Option ARes → Option β} {j pc pc' len x y : Nat} {ins : Instr} {z : Int} {ls ls' st st' : List AVal} {sh : List AShp} {g g' : AMem} {X Y : Option β}
theorem q_s (hc : look (codL j) pc = some (ins, len, x, y, z)) (hk : akd ins x = 0) (hs : stp ins x y z pc ls st sh g = some (pc', ls', st', sh, g')) (k : T (RF j pc' ls' st' sh g') = X) : T (RF j pc ls st sh g) = X := by
  rw [RF_row hc hk hs]
  exact k
theorem q_n (hT : T none = none) (hc : look (codL j) pc = some (ins, len, x, y, z)) (hk : akd ins x = 0) (hs : stp ins x y z pc ls st sh g = none) : T (RF j pc ls st sh g) = none := by
  rw [RF_stk hc hk hs]
  exact hT
theorem q_getI {i : Nat} {t w : Int} (hc : look (codL j) pc = some (.getfield i, len, x, y, z)) (hkn : kin sh t = x) (hj : (jfld x)[y]? = some 0) (hw : ((y : Nat) : Int) = w) (hp : pc + 3 = pc') (k : T (RF j pc' ls (vI (g t w) :: st) sh g) = X) : T (RF j pc ls (vR t :: st) sh g) = X := by
  subst hp
  subst hw
  refine q_s hc rfl ?_ k
  show a_getf x y (pc + 3) ls (vR t :: st) sh g = _
  simp [a_getf, hkn, hj]
theorem q_getL {i : Nat} {t w : Int} (hc : look (codL j) pc = some (.getfield i, len, x, y, z)) (hkn : kin sh t = x) (hj : (jfld x)[y]? = some 1) (hw : ((y : Nat) : Int) = w) (hp : pc + 3 = pc') (k : T (RF j pc' ls (vL (g t w) :: st) sh g) = X) : T (RF j pc ls (vR t :: st) sh g) = X := by
  subst hp
  subst hw
  refine q_s hc rfl ?_ k
  show a_getf x y (pc + 3) ls (vR t :: st) sh g = _
  simp [a_getf, hkn, hj]
theorem q_getF {i : Nat} {t r : Int} (hc : look (codL j) pc = some (.getfield i, len, x, y, z)) (hkn : kin sh t = x) (hj : (jfld x)[y]? = some 3) (hf : fin_ sh t y = r) (hp : pc + 3 = pc') (k : T (RF j pc' ls (vR r :: st) sh g) = X) : T (RF j pc ls (vR t :: st) sh g) = X := by
  subst hp
  subst hf
  refine q_s hc rfl ?_ k
  show a_getf x y (pc + 3) ls (vR t :: st) sh g = _
  simp [a_getf, hkn, hj]
theorem q_getM {i c : Nat} {t w : Int} (hT : T none = none) (hc : look (codL j) pc = some (.getfield i, len, x, y, z)) (hkn : kin sh t = x) (hj : (jfld x)[y]? = some 2) (hr : jrk x y = c) (hw : ((y : Nat) : Int) = w) (hp : pc + 3 = pc') (k : kin sh (g t w) = c → T (RF j pc' ls (vR (g t w) :: st) sh g) = X) : T (RF j pc ls (vR t :: st) sh g) = if kin sh (g t w) = c then X else none := by
  subst hp
  subst hw
  subst hr
  by_cases h : kin sh (g t (y : Nat)) = jrk x y
  · rw [if_pos h]
    refine q_s hc rfl ?_ (k h)
    show a_getf x y (pc + 3) ls (vR t :: st) sh g = _
    simp [a_getf, hkn, hj, h]
  · rw [if_neg h]
    refine q_n hT hc rfl ?_
    show a_getf x y (pc + 3) ls (vR t :: st) sh g = _
    simp [a_getf, hkn, hj, h]
theorem q_putI {i : Nat} {t u w : Int} (hc : look (codL j) pc = some (.putfield i, len, x, y, z)) (hkn : kin sh t = x) (hj : (jfld x)[y]? = some 0) (hw : ((y : Nat) : Int) = w) (hp : pc + 3 = pc') (k : T (RF j pc' ls st sh (up g t w u)) = X) : T (RF j pc ls (vI u :: vR t :: st) sh g) = X := by
  subst hp
  subst hw
  refine q_s hc rfl ?_ k
  show a_putf x y (pc + 3) ls (vI u :: vR t :: st) sh g = _
  simp [a_putf, hkn, hj]
theorem q_putL {i : Nat} {t u w : Int} (hc : look (codL j) pc = some (.putfield i, len, x, y, z)) (hkn : kin sh t = x) (hj : (jfld x)[y]? = some 1) (hw : ((y : Nat) : Int) = w) (hp : pc + 3 = pc') (k : T (RF j pc' ls st sh (up g t w u)) = X) : T (RF j pc ls (vL u :: vR t :: st) sh g) = X := by
  subst hp
  subst hw
  refine q_s hc rfl ?_ k
  show a_putf x y (pc + 3) ls (vL u :: vR t :: st) sh g = _
  simp [a_putf, hkn, hj]
theorem q_putM {i : Nat} {t u w : Int} (hc : look (codL j) pc = some (.putfield i, len, x, y, z)) (hkn : kin sh t = x) (hj : (jfld x)[y]? = some 2) (hw : ((y : Nat) : Int) = w) (hp : pc + 3 = pc') (k : T (RF j pc' ls st sh (up g t w u)) = X) : T (RF j pc ls (vR u :: vR t :: st) sh g) = X := by
  subst hp
  subst hw
  refine q_s hc rfl ?_ k
  show a_putf x y (pc + 3) ls (vR u :: vR t :: st) sh g = _
  simp [a_putf, hkn, hj]
theorem q_iald {a i n : Int} (hT : T none = none) (hc : look (codL j) pc = some (.iaload, len, x, y, z)) (ha : aln sh a = n) (hp : pc + 1 = pc') (k : 0 ≤ i ∧ i < n → T (RF j pc' ls (vI (g a i) :: st) sh g) = X) : T (RF j pc ls (vI i :: vR a :: st) sh g) = if 0 ≤ i ∧ i < n then X else none := by
  subst hp
  subst ha
  by_cases h : 0 ≤ i ∧ i < aln sh a
  · rw [if_pos h]
    refine q_s hc rfl ?_ (k h)
    show a_iald (pc + 1) ls (vI i :: vR a :: st) sh g = _
    simp [a_iald, h]
  · rw [if_neg h]
    refine q_n hT hc rfl ?_
    show a_iald (pc + 1) ls (vI i :: vR a :: st) sh g = _
    simp [a_iald, h]
theorem q_bald {a i n : Int} (hT : T none = none) (hc : look (codL j) pc = some (.baload, len, x, y, z)) (ha : bln sh a = n) (hp : pc + 1 = pc') (k : 0 ≤ i ∧ i < n → T (RF j pc' ls (vI (g a i) :: st) sh g) = X) : T (RF j pc ls (vI i :: vR a :: st) sh g) = if 0 ≤ i ∧ i < n then X else none := by
  subst hp
  subst ha
  by_cases h : 0 ≤ i ∧ i < bln sh a
  · rw [if_pos h]
    refine q_s hc rfl ?_ (k h)
    show a_bald (pc + 1) ls (vI i :: vR a :: st) sh g = _
    simp [a_bald, h]
  · rw [if_neg h]
    refine q_n hT hc rfl ?_
    show a_bald (pc + 1) ls (vI i :: vR a :: st) sh g = _
    simp [a_bald, h]
theorem q_iast {a i n u : Int} (hT : T none = none) (hc : look (codL j) pc = some (.iastore, len, x, y, z)) (ha : aln sh a = n) (h2 : 2 ≤ a) (hp : pc + 1 = pc') (k : 0 ≤ i ∧ i < n → T (RF j pc' ls st sh (up g a i u)) = X) : T (RF j pc ls (vI u :: vI i :: vR a :: st) sh g) = if 0 ≤ i ∧ i < n then X else none := by
  subst hp
  subst ha
  by_cases h : 0 ≤ i ∧ i < aln sh a
  · rw [if_pos h]
    refine q_s hc rfl ?_ (k h)
    show a_iast (pc + 1) ls (vI u :: vI i :: vR a :: st) sh g = _
    simp [a_iast, h, h2]
  · rw [if_neg h]
    refine q_n hT hc rfl ?_
    show a_iast (pc + 1) ls (vI u :: vI i :: vR a :: st) sh g = _
    unfold a_iast
    dsimp only
    rw [if_neg (fun q => h ⟨q.1, q.2.1⟩)]
theorem q_bast {a i n u : Int} (hT : T none = none) (hc : look (codL j) pc = some (.bastore, len, x, y, z)) (ha : bln sh a = n) (hp : pc + 1 = pc') (k : (0 ≤ i ∧ i < n) ∧ (u = 0 ∨ u = 1) → T (RF j pc' ls st sh (up g a i u)) = X) : T (RF j pc ls (vI u :: vI i :: vR a :: st) sh g) = if (0 ≤ i ∧ i < n) ∧ (u = 0 ∨ u = 1) then X else none := by
  subst hp
  subst ha
  by_cases h : (0 ≤ i ∧ i < bln sh a) ∧ (u = 0 ∨ u = 1)
  · rw [if_pos h]
    refine q_s hc rfl ?_ (k h)
    show a_bast (pc + 1) ls (vI u :: vI i :: vR a :: st) sh g = _
    unfold a_bast
    dsimp only
    rw [if_pos ⟨h.1.1, h.1.2, h.2⟩]
  · rw [if_neg h]
    refine q_n hT hc rfl ?_
    show a_bast (pc + 1) ls (vI u :: vI i :: vR a :: st) sh g = _
    unfold a_bast
    dsimp only
    rw [if_neg (fun q => h ⟨⟨q.1, q.2.1⟩, q.2.2⟩)]
theorem q_aald {a i n : Int} (hT : T none = none) (hc : look (codL j) pc = some (.aaload, len, x, y, z)) (ha : rln sh a = n) (hp : pc + 1 = pc') (r : Int) (hr : 0 ≤ i ∧ i < n → fin_ sh a i.toNat = r) (k : 0 ≤ i ∧ i < n → T (RF j pc' ls (vR r :: st) sh g) = X) : T (RF j pc ls (vI i :: vR a :: st) sh g) = if 0 ≤ i ∧ i < n then X else none := by
  subst hp
  subst ha
  by_cases h : 0 ≤ i ∧ i < rln sh a
  · rw [if_pos h]
    refine q_s hc rfl ?_ (k h)
    show a_aald (pc + 1) ls (vI i :: vR a :: st) sh g = _
    simp [a_aald, h, hr h]
  · rw [if_neg h]
    refine q_n hT hc rfl ?_
    show a_aald (pc + 1) ls (vI i :: vR a :: st) sh g = _
    simp [a_aald, h]
theorem q_if {cn : ClassFile.Cond} {o u : Int} {t : Nat} {P : Prop} [Decidable P] (hc : look (codL j) pc = some (.ifCond cn o, len, x, y, z)) (hP : acnd cn u 0 ↔ P) (ht : ((pc : Int) + o).toNat = t) (hp : pc + 3 = pc') (k1 : P → T (RF j t ls st sh g) = X) (k2 : ¬ P → T (RF j pc' ls st sh g) = Y) : T (RF j pc ls (vI u :: st) sh g) = if P then X else Y := by
  subst hp
  subst ht
  by_cases h : P
  · rw [if_pos h]
    refine q_s hc rfl ?_ (k1 h)
    show a_if cn _ (pc + 3) ls (vI u :: st) sh g = _
    unfold a_if
    dsimp only
    cases acndD cn u 0 with
    | isTrue _ => rfl
    | isFalse hn => exact absurd (hP.mpr h) hn
  · rw [if_neg h]
    refine q_s hc rfl ?_ (k2 h)
    show a_if cn _ (pc + 3) ls (vI u :: st) sh g = _
    unfold a_if
    dsimp only
    cases acndD cn u 0 with
    | isTrue hn => exact absurd (hP.mp hn) h
    | isFalse _ => rfl
theorem q_ic {cn : ClassFile.Cond} {o u v : Int} {t : Nat} {P : Prop} [Decidable P] (hc : look (codL j) pc = some (.if_icmp cn o, len, x, y, z)) (hP : acnd cn u v ↔ P) (ht : ((pc : Int) + o).toNat = t) (hp : pc + 3 = pc') (k1 : P → T (RF j t ls st sh g) = X) (k2 : ¬ P → T (RF j pc' ls st sh g) = Y) : T (RF j pc ls (vI v :: vI u :: st) sh g) = if P then X else Y := by
  subst hp
  subst ht
  by_cases h : P
  · rw [if_pos h]
    refine q_s hc rfl ?_ (k1 h)
    show a_ic cn _ (pc + 3) ls (vI v :: vI u :: st) sh g = _
    unfold a_ic
    dsimp only
    cases acndD cn u v with
    | isTrue _ => rfl
    | isFalse hn => exact absurd (hP.mpr h) hn
  · rw [if_neg h]
    refine q_s hc rfl ?_ (k2 h)
    show a_ic cn _ (pc + 3) ls (vI v :: vI u :: st) sh g = _
    unfold a_ic
    dsimp only
    cases acndD cn u v with
    | isTrue hn => exact absurd (hP.mp hn) h
    | isFalse _ => rfl
theorem q_by {P : Prop} [Decidable P] {A : Option β} (k1 : P → A = X) (k2 : ¬ P → A = Y) : A = if P then X else Y := by
  by_cases h : P
  · rw [if_pos h]; exact k1 h
  · rw [if_neg h]; exact k2 h
theorem q_e {v : List AVal} (hc : look (codL j) pc = some (ins, len, x, y, z)) (hk : akd ins x = 2) (he : a_end ins (mtd j).2.2.1 st = some v) (k : T (some (v, sh, g)) = X) : T (RF j pc ls st sh g) = X := by
  rw [RF_end hc hk he]
  exact k
theorem q_eb {u : Int} (hT : T none = none) (hc : look (codL j) pc = some (.ireturn, len, x, y, z)) (h2 : (mtd j).2.2.1 = 2) (k : T (some ([vI u], sh, g)) = X) : T (RF j pc ls [vI u] sh g) = if u = 0 ∨ u = 1 then X else none := by
  by_cases h : u = 0 ∨ u = 1
  · rw [if_pos h]
    refine q_e hc rfl ?_ k
    rw [h2]
    simp [a_end, h]
  · rw [if_neg h, RF_endN hc rfl]
    · exact hT
    · rw [h2]
      simp [a_end, h]
theorem q_call0 (hc : look (codL j) pc = some (ins, len, x, y, z)) (hk : akd ins x = 1) (hy : y ≤ st.length ∧ awg (st.drop y) ≤ 8 ∧ a_rcv (mtd x) sh (st.take y).reverse = true ∧ (aent (st.take y).reverse).length ≤ (mtd x).2.1) :
    RF j pc ls st sh g = (RF x 0 (apad (aent (st.take y).reverse) (mtd x).2.1) [] sh g).bind (fun r => RF j (pc + 3) ls (r.1 ++ st.drop y) r.2.1 r.2.2) := RF_call hc hk hy
theorem q_callI {ls0 rest : List AVal} (hT : T none = none) (hc : look (codL j) pc = some (ins, len, x, y, z)) (hk : akd ins x = 1) (hy : y ≤ st.length ∧ awg (st.drop y) ≤ 8 ∧ a_rcv (mtd x) sh (st.take y).reverse = true ∧ (aent (st.take y).reverse).length ≤ (mtd x).2.1) (h0 : apad (aent (st.take y).reverse) (mtd x).2.1 = ls0) (hr : st.drop y = rest) (hq : qM x = true ∧ x < nmeth ∧ ((mtd x).2.2.1 = 1 ∨ (mtd x).2.2.1 = 2)) (hp : pc + 3 = pc')
    {Z : Int × AMem → Option β} (k : ∀ q : Int × AMem, T (RF j pc' ls (vI q.1 :: rest) sh q.2) = Z q) : T (RF j pc ls st sh g) = (tI (RF x 0 ls0 [] sh g)).bind Z := by
  subst hp h0 hr
  rw [RF_call hc hk hy]
  cases hx : RF x 0 (apad (aent (st.take y).reverse) (mtd x).2.1) [] sh g with
  | none => exact hT
  | some r =>
    obtain ⟨h1, h2⟩ := RF_q hq.2.1 hx
    have h2 := h2 hq.1
    obtain ⟨rv, sh1, g1⟩ := r
    dsimp only at h1 h2
    subst h2
    have h3 : ∃ v, rv = [vI v] := by
      rcases hq.2.2 with e | e
      · rw [e] at h1; exact h1
      · rw [e] at h1
        obtain ⟨v, hv, -⟩ := h1
        exact ⟨v, hv⟩
    obtain ⟨v, rfl⟩ := h3
    exact k (v, g1)
theorem q_callL {ls0 rest : List AVal} (hT : T none = none) (hc : look (codL j) pc = some (ins, len, x, y, z)) (hk : akd ins x = 1) (hy : y ≤ st.length ∧ awg (st.drop y) ≤ 8 ∧ a_rcv (mtd x) sh (st.take y).reverse = true ∧ (aent (st.take y).reverse).length ≤ (mtd x).2.1) (h0 : apad (aent (st.take y).reverse) (mtd x).2.1 = ls0) (hr : st.drop y = rest) (hq : qM x = true ∧ x < nmeth ∧ (mtd x).2.2.1 = 3) (hp : pc + 3 = pc')
    {Z : Int × AMem → Option β} (k : ∀ q : Int × AMem, T (RF j pc' ls (vL q.1 :: rest) sh q.2) = Z q) : T (RF j pc ls st sh g) = (tL (RF x 0 ls0 [] sh g)).bind Z := by
  subst hp h0 hr
  rw [RF_call hc hk hy]
  cases hx : RF x 0 (apad (aent (st.take y).reverse) (mtd x).2.1) [] sh g with
  | none => exact hT
  | some r =>
    obtain ⟨h1, h2⟩ := RF_q hq.2.1 hx
    have h2 := h2 hq.1
    obtain ⟨rv, sh1, g1⟩ := r
    dsimp only at h1 h2
    subst h2
    rw [hq.2.2] at h1
    obtain ⟨v, rfl⟩ := h1
    exact k (v, g1)
theorem q_callR {ls0 rest : List AVal} (hT : T none = none) (hc : look (codL j) pc = some (ins, len, x, y, z)) (hk : akd ins x = 1) (hy : y ≤ st.length ∧ awg (st.drop y) ≤ 8 ∧ a_rcv (mtd x) sh (st.take y).reverse = true ∧ (aent (st.take y).reverse).length ≤ (mtd x).2.1) (h0 : apad (aent (st.take y).reverse) (mtd x).2.1 = ls0) (hr : st.drop y = rest) (hq : qM x = true ∧ x < nmeth ∧ (mtd x).2.2.1 = 4) (hp : pc + 3 = pc')
    {Z : Int × AMem → Option β} (k : ∀ q : Int × AMem, T (RF j pc' ls (vR q.1 :: rest) sh q.2) = Z q) : T (RF j pc ls st sh g) = (tR (RF x 0 ls0 [] sh g)).bind Z := by
  subst hp h0 hr
  rw [RF_call hc hk hy]
  cases hx : RF x 0 (apad (aent (st.take y).reverse) (mtd x).2.1) [] sh g with
  | none => exact hT
  | some r =>
    obtain ⟨h1, h2⟩ := RF_q hq.2.1 hx
    have h2 := h2 hq.1
    obtain ⟨rv, sh1, g1⟩ := r
    dsimp only at h1 h2
    subst h2
    rw [hq.2.2] at h1
    obtain ⟨v, rfl⟩ := h1
    exact k (v, g1)
theorem q_callV {ls0 rest : List AVal} (hT : T none = none) (hc : look (codL j) pc = some (ins, len, x, y, z)) (hk : akd ins x = 1) (hy : y ≤ st.length ∧ awg (st.drop y) ≤ 8 ∧ a_rcv (mtd x) sh (st.take y).reverse = true ∧ (aent (st.take y).reverse).length ≤ (mtd x).2.1) (h0 : apad (aent (st.take y).reverse) (mtd x).2.1 = ls0) (hr : st.drop y = rest) (hq : qM x = true ∧ x < nmeth ∧ (mtd x).2.2.1 = 0) (hp : pc + 3 = pc')
    {Z : AMem → Option β} (k : ∀ q : AMem, T (RF j pc' ls rest sh q) = Z q) : T (RF j pc ls st sh g) = (tV (RF x 0 ls0 [] sh g)).bind Z := by
  subst hp h0 hr
  rw [RF_call hc hk hy]
  cases hx : RF x 0 (apad (aent (st.take y).reverse) (mtd x).2.1) [] sh g with
  | none => exact hT
  | some r =>
    obtain ⟨h1, h2⟩ := RF_q hq.2.1 hx
    have h2 := h2 hq.1
    obtain ⟨rv, sh1, g1⟩ := r
    dsimp only at h1 h2
    subst h2
    rw [hq.2.2] at h1
    have h1 : rv = [] := h1
    subst h1
    exact k g1
end QRS
