/-! the run of a method as a partial function, and its rows as equations -/
theorem ex_mono : ∀ (n j pc : Nat) (ls st : List AVal) (sh : List AShp) (g : AMem) (r : ARes), ex n j pc ls st sh g = some r → ∀ m, n ≤ m → ex m j pc ls st sh g = some r
  | 0, _, _, _, _, _, _, _, h, _, _ => by simp [ex] at h
  | n + 1, j, pc, ls, st, sh, g, r, h, 0, hm => by omega
  | n + 1, j, pc, ls, st, sh, g, r, h, m + 1, hm => by
    have hm' : n ≤ m := by omega
    rw [ex] at h ⊢
    split at h
    · cases h
    · rename_i ins len x y z hlk
      (try rw [hlk])
      (try dsimp only)
      split at h
      · rename_i hk
        (try rw [hk])
        (try dsimp only)
        split at h
        · rename_i pc' ls' st' sh1 g1 hst
          (try rw [hst])
          exact ex_mono n _ _ _ _ _ _ _ h m hm'
        · cases h
      · rename_i hk
        (try rw [hk])
        (try dsimp only)
        split at h
        · rename_i hc
          (try rw [if_pos hc])
          split at h
          · rename_i q hq
            rw [ex_mono n _ _ _ _ _ _ _ hq m hm']
            exact ex_mono n _ _ _ _ _ _ _ h m hm'
          · cases h
        · cases h
      · exact h
noncomputable def RF (j pc : Nat) (ls st : List AVal) (sh : List AShp) (g : AMem) : Option ARes :=
  @dite _ (∃ r n, ex n j pc ls st sh g = some r) (Classical.propDecidable _) (fun h => some h.choose) (fun _ => none)
theorem RF_of {n j pc : Nat} {ls st : List AVal} {sh : List AShp} {g : AMem} {r : ARes} (h : ex n j pc ls st sh g = some r) : RF j pc ls st sh g = some r := by
  have hx : ∃ r n, ex n j pc ls st sh g = some r := ⟨r, n, h⟩
  unfold RF
  rw [dif_pos hx]
  obtain ⟨m, hm⟩ := hx.choose_spec
  have h1 := ex_mono _ _ _ _ _ _ _ _ h (max n m) (Nat.le_max_left _ _)
  have h2 := ex_mono _ _ _ _ _ _ _ _ hm (max n m) (Nat.le_max_right _ _)
  rw [h1] at h2
  exact h2.symm
theorem RF_ex {j pc : Nat} {ls st : List AVal} {sh : List AShp} {g : AMem} {r : ARes} (h : RF j pc ls st sh g = some r) : ∃ n, ex n j pc ls st sh g = some r := by
  unfold RF at h
  by_cases hx : ∃ r n, ex n j pc ls st sh g = some r
  · rw [dif_pos hx] at h
    cases h
    exact hx.choose_spec
  · rw [dif_neg hx] at h
    cases h
theorem opt_ext {α : Type} {a b : Option α} (h : ∀ r, a = some r ↔ b = some r) : a = b := by
  cases a with
  | none => cases b with
    | none => rfl
    | some r => exact absurd ((h r).mpr rfl) (by simp)
  | some r => exact ((h r).mp rfl).symm
section RFS
variable {j pc pc' len x y : Nat} {ins : Instr} {z : Int} {ls ls' st st' : List AVal} {sh sh' : List AShp} {g g' : AMem}
theorem RF_row (hc : look (codL j) pc = some (ins, len, x, y, z)) (hk : akd ins x = 0) (hs : stp ins x y z pc ls st sh g = some (pc', ls', st', sh', g')) : RF j pc ls st sh g = RF j pc' ls' st' sh' g' := by
  apply opt_ext
  intro r
  constructor
  · intro h
    obtain ⟨n, h⟩ := RF_ex h
    match n, h with
    | 0, h => simp [ex] at h
    | n + 1, h =>
      rw [ex, hc] at h
      (try dsimp only at h)
      rw [hk] at h
      (try dsimp only at h)
      rw [hs] at h
      exact RF_of h
  · intro h
    obtain ⟨n, h⟩ := RF_ex h
    refine RF_of (n := n + 1) ?_
    rw [ex, hc]
    (try dsimp only)
    rw [hk]
    (try dsimp only)
    rw [hs]
    exact h
theorem RF_stk (hc : look (codL j) pc = some (ins, len, x, y, z)) (hk : akd ins x = 0) (hs : stp ins x y z pc ls st sh g = none) : RF j pc ls st sh g = none := by
  apply opt_ext
  intro r
  constructor
  · intro h
    obtain ⟨n, h⟩ := RF_ex h
    match n, h with
    | 0, h => simp [ex] at h
    | n + 1, h =>
      rw [ex, hc] at h
      (try dsimp only at h)
      rw [hk] at h
      (try dsimp only at h)
      rw [hs] at h
      cases h
  · intro h
    cases h
theorem RF_end {v : List AVal} (hc : look (codL j) pc = some (ins, len, x, y, z)) (hk : akd ins x = 2) (he : a_end ins (mtd j).2.2.1 st = some v) : RF j pc ls st sh g = some (v, sh, g) := by
  refine RF_of (n := 1) ?_
  rw [ex, hc]
  (try dsimp only)
  rw [hk]
  (try dsimp only)
  rw [he]
  rfl
theorem RF_endN (hc : look (codL j) pc = some (ins, len, x, y, z)) (hk : akd ins x = 2) (he : a_end ins (mtd j).2.2.1 st = none) : RF j pc ls st sh g = none := by
  apply opt_ext
  intro r
  constructor
  · intro h
    obtain ⟨n, h⟩ := RF_ex h
    match n, h with
    | 0, h => simp [ex] at h
    | n + 1, h =>
      rw [ex, hc] at h
      (try dsimp only at h)
      rw [hk] at h
      (try dsimp only at h)
      rw [he] at h
      cases h
  · intro h
    cases h
theorem RF_call (hc : look (codL j) pc = some (ins, len, x, y, z)) (hk : akd ins x = 1) (hy : y ≤ st.length ∧ awg (st.drop y) ≤ 8 ∧ a_rcv (mtd x) sh (st.take y).reverse = true ∧ (aent (st.take y).reverse).length ≤ (mtd x).2.1) :
    RF j pc ls st sh g = (RF x 0 (apad (aent (st.take y).reverse) (mtd x).2.1) [] sh g).bind (fun r => RF j (pc + 3) ls (r.1 ++ st.drop y) r.2.1 r.2.2) := by
  apply opt_ext
  intro r
  rw [Option.bind_eq_some_iff]
  constructor
  · intro h
    obtain ⟨n, h⟩ := RF_ex h
    match n, h with
    | 0, h => simp [ex] at h
    | n + 1, h =>
      rw [ex, hc] at h
      (try dsimp only at h)
      rw [hk] at h
      (try dsimp only at h)
      rw [if_pos hy] at h
      cases hq : ex n x 0 (apad (aent (st.take y).reverse) (mtd x).2.1) [] sh g with
      | none => rw [hq] at h; cases h
      | some q => rw [hq] at h; exact ⟨q, RF_of hq, RF_of h⟩
  · rintro ⟨q, h1, h2⟩
    obtain ⟨n1, h1⟩ := RF_ex h1
    obtain ⟨n2, h2⟩ := RF_ex h2
    refine RF_of (n := max n1 n2 + 1) ?_
    rw [ex, hc]
    (try dsimp only)
    rw [hk]
    (try dsimp only)
    rw [if_pos hy, ex_mono _ _ _ _ _ _ _ _ h1 _ (Nat.le_max_left _ _)]
    exact ex_mono _ _ _ _ _ _ _ _ h2 _ (Nat.le_max_right _ _)
end RFS
/-- makes no cell, and writes no reference that stays -/
def qI (ins : Instr) (x y : Nat) : Bool := match ins with
  | .new _ => false
  | .newarray _ => false
  | .anewarray _ => false
  | .aastore => false
  | .putfield _ => !((jfld x)[y]? == some 3)
  | _ => true
def qMk : List Nat := [0, 6, 9, 11, 23, 38, 46, 70, 90, 92, 134, 226]
def qM (j : Nat) : Bool := !(qMk.contains j)
def qRow (r : ACe) : Bool := qI r.2.1 r.2.2.2.1 r.2.2.2.2.1 && (if akd r.2.1 r.2.2.2.1 = 1 then qM r.2.2.2.1 && decide (r.2.2.2.1 < nmeth) else true)
theorem qM_dec : (List.range nmeth).all (fun j => !qM j || (codL j).all qRow) = true := by decide +kernel
theorem qM_all : ∀ j, j < nmeth → qM j = true → ∀ r ∈ codL j, qI r.2.1 r.2.2.2.1 r.2.2.2.2.1 = true ∧ (akd r.2.1 r.2.2.2.1 = 1 → qM r.2.2.2.1 = true ∧ r.2.2.2.1 < nmeth) := by
  intro j hj hq r hr
  have h1 := List.all_eq_true.mp qM_dec j (List.mem_range.mpr hj)
  rw [hq, Bool.not_true, Bool.false_or] at h1
  have h2 := List.all_eq_true.mp h1 r hr
  unfold qRow at h2
  rw [Bool.and_eq_true] at h2
  refine ⟨h2.1, fun hk => ?_⟩
  have h3 := h2.2
  rw [if_pos hk, Bool.and_eq_true, decide_eq_true_eq] at h3
  exact h3
theorem stp_q {ins : Instr} {x y pc pc1 : Nat} {z : Int} {ls ls' st st' : List AVal} {sh sh' : List AShp} {g g' : AMem} (h : stp ins x y z pc ls st sh g = some (pc1, ls', st', sh', g')) (hq : qI ins x y = true) : sh' = sh := by
  unfold stp at h
  split at h
  all_goals (try unfold a_ldI at h)
  all_goals (try unfold a_ldL at h)
  all_goals (try unfold a_ldR at h)
  all_goals (try unfold a_stI at h)
  all_goals (try unfold a_stL at h)
  all_goals (try unfold a_stR at h)
  all_goals (try unfold a_inc at h)
  all_goals (try unfold a_bi at h)
  all_goals (try unfold a_bl at h)
  all_goals (try unfold a_lcmp at h)
  all_goals (try unfold a_i2l at h)
  all_goals (try unfold a_l2i at h)
  all_goals (try unfold a_dup at h)
  all_goals (try unfold a_dup2 at h)
  all_goals (try unfold a_pop at h)
  all_goals (try unfold a_if at h)
  all_goals (try unfold a_ic at h)
  all_goals (try unfold a_tsw at h)
  all_goals (try unfold a_lsw at h)
  all_goals (try unfold a_getf at h)
  all_goals (try unfold a_putf at h)
  all_goals (try unfold a_iald at h)
  all_goals (try unfold a_iast at h)
  all_goals (try unfold a_bald at h)
  all_goals (try unfold a_bast at h)
  all_goals (try unfold a_aald at h)
  all_goals (try unfold a_alen at h)
  all_goals (try unfold a_obj at h)
  all_goals (repeat' split at h)
  all_goals (try unfold a_acpy at h)
  all_goals (try unfold a_mm at h)
  all_goals (repeat' split at h)
  all_goals first
    | (cases h; done)
    | (cases h; rfl)
    | (simp [qI] at hq; done)
    | (simp [qI] at hq; contradiction)
/-- what a method answers, by its sort -/
def okR (rk : Nat) (l : List AVal) : Prop := match rk with
  | 0 => l = []
  | 1 => ∃ v, l = [vI v]
  | 2 => ∃ v, l = [vI v] ∧ (v = 0 ∨ v = 1)
  | 3 => ∃ v, l = [vL v]
  | _ => ∃ v, l = [vR v]
theorem end_R {ins : Instr} {rk : Nat} {st rv : List AVal} (h : a_end ins rk st = some rv) : okR rk rv := by
  unfold a_end at h
  split at h
  · cases h; exact ⟨_, rfl⟩
  · split at h
    · rename_i h1
      cases h
      exact ⟨_, rfl, h1⟩
    · cases h
  · cases h; exact ⟨_, rfl⟩
  · split at h
    · cases h; exact ⟨_, rfl⟩
    · cases h
  · cases h; exact rfl
  · cases h
theorem ex_q : ∀ (n j pc : Nat) (ls st : List AVal) (sh : List AShp) (g : AMem) (r : ARes), ex n j pc ls st sh g = some r → j < nmeth → okR (mtd j).2.2.1 r.1 ∧ (qM j = true → r.2.1 = sh)
  | 0, _, _, _, _, _, _, _, h, _ => by simp [ex] at h
  | n + 1, j, pc, ls, st, sh, g, r, h, hj => by
    rw [ex] at h
    split at h
    · cases h
    · rename_i ins len x y z hlk
      have hm := look_mem _ _ _ hlk
      split at h
      · split at h
        · rename_i hs
          have h2 := ex_q n _ _ _ _ _ _ _ h hj
          exact ⟨h2.1, fun hq => (h2.2 hq).trans (stp_q hs (qM_all j hj hq _ hm).1)⟩
        · cases h
      · rename_i hk
        split at h
        · split at h
          · rename_i hq
            have h2 := ex_q n _ _ _ _ _ _ _ h hj
            refine ⟨h2.1, fun hqq => (h2.2 hqq).trans ?_⟩
            have h3 := (qM_all j hj hqq _ hm).2 hk
            exact (ex_q n _ _ _ _ _ _ _ hq h3.2).2 h3.1
          · cases h
        · cases h
      · split at h
        · rename_i v hv
          cases h
          exact ⟨end_R hv, fun _ => rfl⟩
        · cases h
/-- the answers, with the memory left behind -/
def tI : Option ARes → Option (Int × AMem)
  | some ([.inl v], r) => some (v, r.2)
  | _ => none
def tL : Option ARes → Option (Int × AMem)
  | some ([.inr (.inl v)], r) => some (v, r.2)
  | _ => none
def tR : Option ARes → Option (Int × AMem)
  | some ([.inr (.inr (.inl v))], r) => some (v, r.2)
  | _ => none
def tV : Option ARes → Option AMem
  | some ([], r) => some r.2
  | _ => none
theorem RF_q {j pc : Nat} {ls st : List AVal} {sh : List AShp} {g : AMem} {r : ARes} (hj : j < nmeth) (h : RF j pc ls st sh g = some r) : okR (mtd j).2.2.1 r.1 ∧ (qM j = true → r.2.1 = sh) := by
  obtain ⟨n, h⟩ := RF_ex h
  exact ex_q n _ _ _ _ _ _ _ h hj
