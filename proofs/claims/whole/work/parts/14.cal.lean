theorem good_A {w : Cond} (h : w ∈ wsA) : (w.onTables && w.keeps) = true ∨ ∃ ty, w = .arrayClass ty := good_of_word (List.mem_filter.mp h).2
theorem onT : ∀ w ∈ nestW, w.onTables = true := by decide +kernel
theorem KF_same {D : va_G} {cs : Nat → ClassId} {u U : State} (h : u.vm = U.vm) (hK : KF D cs u) : KF D cs U :=
  ⟨hK.1.moved (h ▸ Vm.Alike.refl _), hK.2.1.moved (h ▸ Vm.Alike.refl _), hK.2.2.1.moved (h ▸ Vm.Alike.refl _), fun w hw => va_Nw.same (onT w hw) h (hK.2.2.2 w hw)⟩
theorem KF_warm {D : va_G} {cs : Nat → ClassId} {s U : State} (hW : s.WarmedH U.vm) (hK : KF D cs s) : KF D cs U := by
  refine ⟨hK.1.moved hW.alike, hK.2.1.moved hW.alike, hK.2.2.1.moved hW.alike, fun w hw => ?_⟩
  have h := hK.2.2.2 w hw
  simp only [nestW, List.mem_cons, List.not_mem_nil, or_false] at hw
  rcases hw with rfl | rfl | rfl | rfl <;> exact va_Nw.warmM hW h
def Wdd (b base L : Nat) (xs : Nat → Int32) (D : va_G) (cs : Nat → ClassId) (sh : List AShp) (g : AMem) (U : State) : Prop := va_P D vwCl (WSa b base cs sh g) U.heap ∧ PF L xs sh g ∧ KF D cs U ∧ va_X b L xs U U.heap ∧ U.heap.size = base + (sh.length - 2)
def Qjj (b base L : Nat) (xs : Nat → Int32) (D : va_G) (cs : Nat → ClassId) (rv : List AVal) (sh : List AShp) (g : AMem) : Array Value → State → Outcome → State → Prop := fun _ st oc t => oc = .returned (rv.map (evv b base)).head? ∧ rv.length ≤ 1 ∧ (∀ v ∈ rv, okV v) ∧ va_F (fun q : Nat => base ≤ q) st t ∧ Wdd b base L xs D cs sh g t
theorem cat_wg (b base : Nat) (l : List AVal) : ((l.map (evv b base)).map fun v => v.category).sum = awg l := by
  unfold awg
  rw [List.map_map]
  congr 1
  apply List.map_congr_left
  intro v _
  exact evv_cat b base v
theorem ent_len (b base : Nat) : ∀ l : List AVal, (lg_sl (l.map (evv b base))).length = (aent l).length
  | [] => rfl
  | v :: l => by
    have h := ent_len b base l
    unfold lg_sl aent at h ⊢
    rw [List.map_cons, List.flatMap_cons, List.flatMap_cons, List.length_append, List.length_append, h, evv_cat]
    congr 1
    by_cases e : ac1 v = true
    · simp [e]
    · simp [e]
theorem ent_at (b base : Nat) : ∀ (l : List AVal) (i : Nat) (v : AVal), (aent l)[i]? = some v → isS v = true → (lg_sl (l.map (evv b base)))[i]? = some (.val (evv b base v))
  | [], i, v, h, _ => by simp [aent] at h
  | w :: l, i, v, h, hs => by
    have ih := ent_at b base l
    unfold lg_sl aent at ih
    unfold lg_sl
    unfold aent at h
    rw [List.flatMap_cons] at h
    rw [List.map_cons, List.flatMap_cons, evv_cat]
    by_cases e : ac1 w = true
    · rw [if_pos e] at h
      rw [if_pos e, if_neg (by decide)]
      match i with
      | 0 =>
        simp only [List.cons_append, List.nil_append, List.getElem?_cons_zero] at h ⊢
        cases h
        rfl
      | i + 1 =>
        simp only [List.cons_append, List.nil_append, List.getElem?_cons_succ] at h ⊢
        exact ih i v h hs
    · rw [if_neg e] at h
      rw [if_neg e, if_pos rfl]
      match i with
      | 0 =>
        simp only [List.cons_append, List.nil_append, List.getElem?_cons_zero] at h ⊢
        cases h
        rfl
      | 1 =>
        simp only [List.cons_append, List.nil_append, List.getElem?_cons_succ, List.getElem?_cons_zero] at h
        cases h
        cases hs
      | i + 2 =>
        simp only [List.cons_append, List.nil_append, List.getElem?_cons_succ] at h ⊢
        exact ih i v h hs
theorem ent_ok : ∀ l : List AVal, (∀ v ∈ l, okV v) → ∀ (n : Nat), ∀ v ∈ apad (aent l) n, okV v := by
  intro l hl n v hv
  unfold apad at hv
  rcases List.mem_append.mp hv with h | h
  · unfold aent at h
    obtain ⟨w, hw, h⟩ := List.mem_flatMap.mp h
    split at h
    · rw [List.mem_singleton.mp h]
      exact hl w hw
    · rcases List.mem_cons.mp h with e | e
      · rw [e]
        exact hl w hw
      · rw [List.mem_singleton.mp e]
        exact True.intro
  · rw [(List.mem_replicate.mp h).2]
    exact True.intro
theorem ent_LH (b base : Nat) {l : List AVal} {n : Nat} (hn : (aent l).length ≤ n) : LH b base ((lg_sl (l.map (evv b base)) ++ List.replicate (n - (lg_sl (l.map (evv b base))).length) Slot.unset).toArray) (apad (aent l) n) := by
  have h := lv_entry (l.map (evv b base)) (n := n) (by rw [ent_len]; exact hn)
  refine ⟨?_, h.2.1, fun i v hv hs => ?_⟩
  · rw [h.1]
    unfold apad
    rw [List.length_append, List.length_replicate]
    omega
  · unfold apad at hv
    rw [List.getElem?_toArray]
    by_cases hi : i < (aent l).length
    · rw [List.getElem?_append_left hi] at hv
      rw [List.getElem?_append_left (by rw [ent_len]; exact hi)]
      exact ent_at b base l i v hv hs
    · rw [List.getElem?_append_right (by omega)] at hv
      have := (List.mem_replicate.mp (List.mem_of_getElem? hv)).2
      subst this
      cases hs
theorem pad_len {l : List AVal} {n : Nat} (hn : l.length ≤ n) : (apad l n).length = n := by
  unfold apad
  rw [List.length_append, List.length_replicate]
  omega
def rtOK (x : Nat) : Bool := decide (plainName (ynm x).cls = true) && (match (mtd x).2.2.1, rtm x with
  | 0, none => true
  | 1, some .int => true
  | 2, some .boolean => true
  | 3, some .long => true
  | 4, some (.object _) => true
  | _, _ => false)
theorem rt_all : ∀ x, x < nlaw → rtOK x = true := by decide +kernel
theorem end_sub {ins : Instr} {rk : Nat} {st rv : List AVal} (h : a_end ins rk st = some rv) : rv = st ∧ rv.length ≤ 1 := by
  unfold a_end at h
  split at h
  · cases h; exact ⟨rfl, Nat.le_refl _⟩
  · split at h
    · cases h; exact ⟨rfl, Nat.le_refl _⟩
    · cases h
  · cases h; exact ⟨rfl, Nat.le_refl _⟩
  · split at h
    · cases h; exact ⟨rfl, Nat.le_refl _⟩
    · cases h
  · cases h; exact ⟨rfl, Nat.zero_le _⟩
  · cases h
theorem ex_fx : ∀ (n j pc : Nat) (ls st : List AVal) (sh : List AShp) (g : AMem) (r : ARes), ex n j pc ls st sh g = some r → r.1.length ≤ 1 ∧ sh.length ≤ r.2.1.length ∧ slt sh ≤ slt r.2.1
  | 0, _, _, _, _, _, _, _, h => by simp [ex] at h
  | n + 1, j, pc, ls, st, sh, g, r, h => by
    rw [ex] at h
    split at h
    · cases h
    · split at h
      · split at h
        · rename_i hs
          have h1 := stp_fx hs
          have h2 := ex_fx n _ _ _ _ _ _ _ h
          exact ⟨h2.1, by omega, by omega⟩
        · cases h
      · split at h
        · split at h
          · rename_i hq
            have h1 := ex_fx n _ _ _ _ _ _ _ hq
            have h2 := ex_fx n _ _ _ _ _ _ _ h
            exact ⟨h2.1, by omega, by omega⟩
          · cases h
        · cases h
      · split at h
        · rename_i v hv
          cases h
          exact ⟨(end_sub hv).2, Nat.le_refl _, Nat.le_refl _⟩
        · cases h
section CAL
variable {p : Program} {l : Launch} {e : Env} {R : Room} {s : State} {m : MethodId} {args : Array Value} {below : List Frame} {meth : Method} {c : Code} {Q : State → Prop}
variable {b base L j n0 s0 : Nat} {xs : Nat → Int32} {D : va_G} {cs : Nat → ClassId} {Ts : List Cond} {pc : Nat} {ls st : List AVal} {sh : List AShp} {g : AMem} {lsA : Array Slot} {H : Heap} {locs : List Loc}
theorem va_callG {Qa : State → Outcome → State → Prop} {free : Addr → Prop} {mc ms cells slots : Nat} {st0 rest : List Value} (hr : va_Run p l e R s m args below meth c H locs cells slots mc ms (F0 m pc lsA st0) rest Qa free) (hf : ∀ q, free q → base ≤ q) (hS : va_S (fun q : Nat => base ≤ q) s.heap H locs)
    (hQ : ∀ st v t, Qa st (.returned v) t → va_F (fun q : Nat => base ≤ q) st t)
    (kk : ∀ (st t : State) (v : Option Value) (locs1 : List Loc), Qa st (.returned v) t → va_S (fun q : Nat => base ≤ q) s.heap t.heap locs1 → W p l e R s m args below meth c t.heap locs1 (cells + mc) (slots + ms) Q (F0 m (pc + 3) lsA (v.toList ++ rest))) : W p l e R s m args below meth c H locs cells slots Q (F0 m pc lsA st0) := by
  intro T hT X
  obtain ⟨v, st₀, t, T', Lc, h0, X', hL, e1, e2, hq, st⟩ := hr T hT X
  obtain ⟨hz, hk⟩ := hQ st₀ v t hq
  rw [h0] at hz hk
  obtain ⟨t2, a1, b1⟩ := kk st₀ t v (locs ++ Lc) hq ⟨Nat.le_trans hS.1 hz, fun q h1 h2 => by rw [hk q (Nat.lt_of_lt_of_le h1 hS.1) h2]; exact hS.2.1 q h1 h2, fun q hq => by
      rcases List.mem_append.mp hq with h | h
      · exact hS.2.2 q h
      · exact hf _ (hL q h)⟩ T' e1 X'
  exact ⟨t2, st t2 a1, b1⟩
end CAL
