/-! makers: one walk of all their rows, checked by number -/
abbrev AOp : Type := Int × Option (Int × Int)
def fO : List AOp → AMem → AMem
  | [], g => g
  | (a, none) :: o, g => zr (fO o g) a
  | (a, some (k, v)) :: o, g => up (fO o g) a k v
def rO : List AOp → Int → Int → Option Int
  | [], _, _ => none
  | (a, none) :: o, t, y => if t = a then some 0 else rO o t y
  | (a, some (k, v)) :: o, t, y => if t = a ∧ y = k then some v else rO o t y
theorem rO_some {g : AMem} {t y : Int} : ∀ {o : List AOp} {v : Int}, rO o t y = some v → fO o g t y = v
  | [], v, h => by simp [rO] at h
  | (a, none) :: o, v, h => by
    rw [rO] at h
    rw [fO]
    show (if t = a then 0 else fO o g t y) = v
    by_cases e : t = a
    · rw [if_pos e] at h ⊢; exact Option.some.inj h
    · rw [if_neg e] at h ⊢; exact rO_some h
  | (a, some (k, w)) :: o, v, h => by
    rw [rO] at h
    rw [fO]
    show (if t = a ∧ y = k then w else fO o g t y) = v
    by_cases e : t = a ∧ y = k
    · rw [if_pos e] at h ⊢; exact Option.some.inj h
    · rw [if_neg e] at h ⊢; exact rO_some h
/-- a place that no write but a clear or a zero has met -/
def zO (o : List AOp) (t y : Int) : Bool := o.all (fun q => match q.2 with
  | none => true
  | some kv => decide (¬ (t = q.1 ∧ y = kv.1)))
theorem zO_0 {g : AMem} {t y : Int} (hg : g t y = 0) : ∀ {o : List AOp}, (∀ a k v, (a, some (k, v)) ∈ o → ¬ (t = a ∧ y = k)) → fO o g t y = 0
  | [], _ => hg
  | (a, none) :: o, h => by
    rw [fO]
    show (if t = a then 0 else fO o g t y) = 0
    by_cases e : t = a
    · rw [if_pos e]
    · rw [if_neg e]; exact zO_0 hg (fun a k v hm => h a k v (List.mem_cons_of_mem _ hm))
  | (a, some (k, w)) :: o, h => by
    rw [fO]
    show (if t = a ∧ y = k then w else fO o g t y) = 0
    rw [if_neg (h a k w List.mem_cons_self)]
    exact zO_0 hg (fun a k v hm => h a k v (List.mem_cons_of_mem _ hm))
theorem fO_of {g : AMem} {t y : Int} : ∀ {o : List AOp}, (∀ q ∈ o, t ≠ q.1) → fO o g t y = g t y
  | [], _ => rfl
  | (a, none) :: o, h => by
    rw [fO]
    show (if t = a then 0 else fO o g t y) = g t y
    rw [if_neg (h (a, none) List.mem_cons_self)]
    exact fO_of (fun q hm => h q (List.mem_cons_of_mem _ hm))
  | (a, some (k, w)) :: o, h => by
    rw [fO]
    show (if t = a ∧ y = k then w else fO o g t y) = g t y
    rw [if_neg (fun e => h (a, some (k, w)) List.mem_cons_self e.1)]
    exact fO_of (fun q hm => h q (List.mem_cons_of_mem _ hm))
/-- rows that need no cell -/
def plI (ins : Instr) (x : Nat) : Bool := match ins with
  | .iconst _ => true
  | .bipush _ => true
  | .sipush _ => true
  | .aload_n _ => true
  | .iload_n _ => true
  | .istore_n _ => true
  | .astore_n _ => true
  | .iinc _ _ => true
  | .dup => true
  | .if_icmp _ _ => true
  | .goto _ => true
  | .invokespecial _ => x == 1000
  | _ => false
abbrev CCfg : Type := Nat × (List AVal × (List AVal × (List AShp × List AOp)))
def g00 : AMem := fun _ _ => 0
def c_new (x pc' : Nat) (ls st : List AVal) (c : List AShp) (o : List AOp) : Option CCfg :=
  some (pc', ls, vR ((c.length : Int) + 2) :: st, c ++ [(x, (jfld x).length, List.replicate (jfld x).length 0)], ((c.length : Int) + 2, none) :: o)
def c_newa (k pc' : Nat) (ls st : List AVal) (c : List AShp) (o : List AOp) : Option CCfg := match st with
  | .inl n :: r => if 0 ≤ n ∧ n ≤ 1000 then some (pc', ls, vR ((c.length : Int) + 2) :: r, c ++ [(k, n.toNat, [])], ((c.length : Int) + 2, none) :: o) else none
  | _ => none
def c_newq (k pc' : Nat) (ls st : List AVal) (c : List AShp) (o : List AOp) : Option CCfg := match st with
  | .inl n :: r => if (k = 22 ∨ k = 23) ∧ 0 ≤ n ∧ n ≤ 1000 then some (pc', ls, vR ((c.length : Int) + 2) :: r, c ++ [(k, n.toNat, List.replicate n.toNat 0)], ((c.length : Int) + 2, none) :: o) else none
  | _ => none
def c_at (c : List AShp) (t : Int) : AShp := if 2 ≤ t then (c[(t - 2).toNat]?.getD (97, 0, [])) else (98, 0, [])
def c_ok (c : List AShp) (t : Int) : Bool := decide (2 ≤ t ∧ (t - 2).toNat < c.length)
def c_getf (x y pc' : Nat) (ls st : List AVal) (c : List AShp) (o : List AOp) : Option CCfg := match st with
  | .inr (.inr (.inl t)) :: r => if c_ok c t = true ∧ (c_at c t).1 = x ∧ (jfld x)[y]? = some 3 then some (pc', ls, vR ((c_at c t).2.2.getD y 0) :: r, c, o)
    else if c_ok c t = true ∧ (c_at c t).1 = x ∧ (jfld x)[y]? = some 2 then (match rO o t y with
      | some v => if c_ok c v = true ∧ (c_at c v).1 = jrk x y then some (pc', ls, vR v :: r, c, o) else none
      | none => none) else none
  | _ => none
def c_putf (x y pc' : Nat) (ls st : List AVal) (c : List AShp) (o : List AOp) : Option CCfg := match st with
  | .inr (.inr (.inl v)) :: .inr (.inr (.inl t)) :: r => if c_ok c t = true ∧ (c_at c t).1 = x ∧ (jfld x)[y]? = some 3 ∧ y < (c_at c t).2.2.length then some (pc', ls, r, c.set (t - 2).toNat ((c_at c t).1, (c_at c t).2.1, (c_at c t).2.2.set y v), o)
    else if c_ok c t = true ∧ (c_at c t).1 = x ∧ (jfld x)[y]? = some 2 then some (pc', ls, r, c, (t, some ((y : Int), v)) :: o) else none
  | _ => none
def c_aast (pc' : Nat) (ls st : List AVal) (c : List AShp) (o : List AOp) : Option CCfg := match st with
  | .inr (.inr (.inl v)) :: .inl i :: .inr (.inr (.inl t)) :: r => if c_ok c t = true ∧ c_ok c v = true ∧ (0 ≤ i ∧ i < (c_at c t).2.1 ∧ i.toNat < (c_at c t).2.2.length) ∧ (((c_at c t).1 = 22 ∧ (c_at c v).1 = 0) ∨ ((c_at c t).1 = 23 ∧ (c_at c v).1 = 2)) then
      some (pc', ls, r, c.set (t - 2).toNat ((c_at c t).1, (c_at c t).2.1, (c_at c t).2.2.set i.toNat v), o) else none
  | _ => none
def c_pl (q : Option ACfg) (c : List AShp) (o : List AOp) : Option CCfg := match q with
  | some r => some (r.1, r.2.1, r.2.2.1, c, o)
  | none => none
def cst (ins : Instr) (x y : Nat) (z : Int) (pc : Nat) (ls st : List AVal) (c : List AShp) (o : List AOp) : Option CCfg := match ins with
  | .new _ => c_new x (pc + 3) ls st c o
  | .newarray t => match t with
    | .int => c_newa 20 (pc + 2) ls st c o
    | .boolean => c_newa 21 (pc + 2) ls st c o
    | _ => none
  | .anewarray _ => c_newq x (pc + 3) ls st c o
  | .getfield _ => c_getf x y (pc + 3) ls st c o
  | .putfield _ => c_putf x y (pc + 3) ls st c o
  | .aastore => c_aast (pc + 1) ls st c o
  | ins => if plI ins x = true then c_pl (stp ins x y z pc ls st [] g00) c o else none
def cx : Nat → Nat → Nat → List AVal → List AVal → List AShp → List AOp → Option (List AVal × (List AShp × List AOp))
  | 0, _, _, _, _, _, _ => none
  | n + 1, j, pc, ls, st, c, o =>
    match look (codL j) pc with
    | none => none
    | some (ins, (_, (x, (y, z)))) =>
      match akd ins x with
      | 0 => match cst ins x y z pc ls st c o with
        | some (pc', ls', st', c', o') => cx n j pc' ls' st' c' o'
        | none => none
      | 1 => if (mtd x).2.2.2.2.2.2 = 2 ∧ y ≤ st.length ∧ awg (st.drop y) ≤ 8 ∧ a_rcv (mtd x) [] (st.take y).reverse = true ∧ (aent (st.take y).reverse).length ≤ (mtd x).2.1 then
          match cx n x 0 (apad (aent (st.take y).reverse) (mtd x).2.1) [] c o with
          | some r => cx n j (pc + 3) ls (r.1 ++ st.drop y) r.2.1 r.2.2
          | none => none
        else none
      | _ => match a_end ins (mtd j).2.2.1 st with
        | some v => some (v, c, o)
        | none => none
section CXS
variable {ins : Instr} {L j pc pc' len x y i N : Nat} {z r t u v : Int} {ls ls' st st' : List AVal} {c c' : List AShp} {o o' : List AOp} {g g' : AMem} {w : AShp}
theorem c_ok_s (h : c_ok c t = true) : t = ((t - 2).toNat : Int) + 2 ∧ c[(t - 2).toNat]? = some (c_at c t) := by
  unfold c_ok at h
  rw [decide_eq_true_eq] at h
  refine ⟨by omega, ?_⟩
  unfold c_at
  rw [if_pos h.1, List.getElem?_eq_getElem h.2]
  rfl
theorem pl_ok {s' : List AShp} {g0 : AMem} (hp : plI ins x = true) (h : stp ins x y z pc ls st [] g00 = some (pc', ls', st', s', g0)) (sh : List AShp) (g : AMem) : stp ins x y z pc ls st sh g = some (pc', ls', st', sh, g) := by
  unfold plI at hp
  split at hp
  all_goals (first | (cases hp; done) | skip)
  all_goals (simp only [stp] at h ⊢)
  all_goals (first | (unfold a_ldI at h ⊢) | (unfold a_ldR at h ⊢) | (unfold a_stI at h ⊢) | (unfold a_stR at h ⊢) | (unfold a_inc at h ⊢) | (unfold a_dup at h ⊢) | (unfold a_ic at h ⊢) | (unfold a_obj at h ⊢) | skip)
  all_goals (repeat' (split at h))
  all_goals (first | (cases h; done) | skip)
  all_goals (cases h)
  all_goals (first | rfl | (simp_all; done) | skip)
theorem cst_ok (h : cst ins x y z pc ls st c o = some (pc', ls', st', c', o')) (hc : look (codL j) pc = some (ins, len, x, y, z)) (hk : akd ins x = 0) : RF j pc ls st (zS L c) (fO o g) = RF j pc' ls' st' (zS L c') (fO o' g) := by
  unfold cst at h
  split at h
  · cases h
    exact m_new hc rfl rfl rfl rfl rfl
  · split at h
    · unfold c_newa at h
      split at h
      · split at h
        · rename_i hu
          cases h
          exact m_newI hc rfl rfl hu rfl rfl rfl
        · cases h
      · cases h
    · unfold c_newa at h
      split at h
      · split at h
        · rename_i hu
          cases h
          exact m_newB hc rfl rfl hu rfl rfl rfl
        · cases h
      · cases h
    · cases h
  · unfold c_newq at h
    split at h
    · split at h
      · rename_i hu
        cases h
        exact m_newQ hc hu.1 rfl rfl hu.2 rfl rfl rfl
      · cases h
    · cases h
  · unfold c_getf at h
    split at h
    · split at h
      · rename_i hu
        obtain ⟨h1, h2, h3⟩ := hu
        cases h
        exact m_getF hc (c_ok_s h1).1 (c_ok_s h1).2 h2 h3 rfl rfl
      · split at h
        · rename_i hu
          obtain ⟨h1, h2, h3⟩ := hu
          split at h
          · rename_i v hv
            split at h
            · rename_i hw
              cases h
              exact m_getM hc (c_ok_s h1).1 (c_ok_s h1).2 h2 h3 (rO_some hv) (c_ok_s hw.1).1 (c_ok_s hw.1).2 hw.2 rfl
            · cases h
          · cases h
        · cases h
    · cases h
  · unfold c_putf at h
    split at h
    · split at h
      · rename_i hu
        obtain ⟨h1, h2, h3, h4⟩ := hu
        cases h
        exact m_putF hc (c_ok_s h1).1 (c_ok_s h1).2 h2 h3 h4 rfl rfl
      · split at h
        · rename_i hu
          obtain ⟨h1, h2, h3⟩ := hu
          cases h
          exact m_putM hc (c_ok_s h1).1 (c_ok_s h1).2 h2 h3 rfl rfl
        · cases h
    · cases h
  · unfold c_aast at h
    split at h
    · split at h
      · rename_i hu
        obtain ⟨h1, h2, h3, h4⟩ := hu
        cases h
        exact m_aast hc (c_ok_s h1).1 (c_ok_s h1).2 (h4.imp (·.1) (·.1)) h3 (c_ok_s h2).1 (c_ok_s h2).2 h4 rfl rfl
      · cases h
    · cases h
  · split at h
    · rename_i hp
      unfold c_pl at h
      split at h
      · rename_i q hq
        cases h
        exact m_row hc hk (pl_ok hp hq _ _)
      · cases h
    · cases h
theorem rcv_2 {mt : AMt} {sh sh' : List AShp} {l : List AVal} (h : mt.2.2.2.2.2.2 = 2) : a_rcv mt sh l = a_rcv mt sh' l := by
  unfold a_rcv
  rw [h]
  rcases l with _ | ⟨v | v | v | v, l⟩ <;> rfl
theorem cx_ok : ∀ (n j pc : Nat) (ls st : List AVal) (c : List AShp) (o : List AOp) (r : List AVal × (List AShp × List AOp)), cx n j pc ls st c o = some r → RF j pc ls st (zS L c) (fO o g) = some (r.1, zS L r.2.1, fO r.2.2 g) := by
  intro n
  induction n with
  | zero => intro j pc ls st c o r h; simp [cx] at h
  | succ n ih =>
    intro j pc ls st c o r h
    rw [cx] at h
    split at h
    · cases h
    · rename_i ins len x y z hlk
      split at h
      · rename_i hk0
        split at h
        · rename_i pc' ls' st' c' o' hst
          rw [cst_ok hst hlk hk0]
          exact ih _ _ _ _ _ _ _ h
        · cases h
      · rename_i hk1
        split at h
        · rename_i hu
          obtain ⟨h0, h1, h2, h3, h4⟩ := hu
          split at h
          · rename_i q hq
            have h3' : a_rcv (mtd x) (zS L c) (st.take y).reverse = true := by
              rw [← h3]
              exact rcv_2 h0
            rw [RF_call hlk hk1 ⟨h1, h2, h3', h4⟩, ih _ _ _ _ _ _ _ hq]
            exact ih _ _ _ _ _ _ _ h
          · cases h
        · cases h
      · split at h
        · rename_i v hv
          cases h
          exact RF_end hlk (by
            rename_i h1 h2 h3
            unfold akd at h1 h2 ⊢
            split <;> simp_all) hv
        · cases h
end CXS
def cB : List AShp := [(9, 14, [0, 0, 0, 0, 0, 0, 0, 0, 0, 0, 0, 0, 0, 0])]
def r90 : List AVal × (List AShp × List AOp) := (cx 3000 92 0 [vR 2] [] cB [(2, none)]).getD ([], [], [])
theorem r90_ok : ((cx 3000 92 0 [vR 2] [] cB [(2, none)]).isSome && r90.1.isEmpty && decide (r90.2.1.length = 135)) = true := by decide +kernel
