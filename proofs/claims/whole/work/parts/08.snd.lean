/-! what the machine has, for what the numbers say -/
def slt (sh : List AShp) : Nat := (sh.map (fun s => s.2.1)).sum
def plk (sh : List AShp) (a k : Int) : Nat := match sh[a.toNat]? with
  | none => 9
  | some s => if s.1 = 20 ∨ s.1 = 21 ∨ s.1 = 30 then 0 else (jfld s.1).getD k.toNat 9
def okM (sh : List AShp) (g : AMem) : Prop := ∀ a k : Int, (plk sh a k = 0 → iw (g a k) = g a k) ∧ (plk sh a k = 1 → lw (g a k) = g a k)
def okV : AVal → Prop
  | .inl x => iw x = x
  | .inr (.inl x) => lw x = x
  | _ => True
def PF (L : Nat) (xs : Nat → Int32) (sh : List AShp) (g : AMem) : Prop := 2 ≤ sh.length ∧ sh[0]? = some (99, 0, []) ∧ sh[1]? = some (30, L, []) ∧ L ≤ 2048 ∧ okM sh g ∧ ∀ j : Nat, j < L → Int32.ofInt (g 1 j) = xs j
def TYs (cs : Nat → ClassId) : List (ClassId × FieldType) := [(cs 0, .int), (cs 1, .boolean), (cs 2, .object RX0), (cs 3, .object RX2)]
def KF (D : va_G) (cs : Nat → ClassId) (U : State) : Prop := va_K D vwCl (TYs cs) U ∧ va_AO RX0 U ∧ va_AO RX2 U ∧ ∀ w ∈ nestW, va_Nw w U
def isS : AVal → Bool
  | .inr (.inr (.inr _)) => false
  | _ => true
def lvl (b base : Nat) (ls : List AVal) : List (Nat × Value) := (List.range ls.length).filterMap (fun i => (ls[i]?).bind (fun v => if isS v = true then some (i, evv b base v) else none))
def LH (b base : Nat) (lsA : Array Slot) (ls : List AVal) : Prop := lsA.size = ls.length ∧ lv_wf lsA ∧ ∀ (i : Nat) (v : AVal), ls[i]? = some v → isS v = true → lsA[i]? = some (.val (evv b base v))
theorem lvl_mem {b base : Nat} {ls : List AVal} {i : Nat} {v : AVal} (h : ls[i]? = some v) (hs : isS v = true) : (i, evv b base v) ∈ lvl b base ls :=
  List.mem_filterMap.mpr ⟨i, List.mem_range.mpr (List.getElem?_eq_some_iff.mp h).1, by rw [h]; simp [hs]⟩
theorem LH.has {b base : Nat} {lsA : Array Slot} {ls : List AVal} (h : LH b base lsA ls) : lv_has lsA ls.length (lvl b base ls) := by
  refine ⟨h.1, h.2.1, fun q hq => ?_⟩
  obtain ⟨i, -, hi⟩ := List.mem_filterMap.mp hq
  cases hv : ls[i]? with
  | none => rw [hv] at hi; simp at hi
  | some v =>
    rw [hv] at hi
    simp only [Option.bind_some] at hi
    by_cases hs : isS v = true
    · rw [if_pos hs] at hi
      cases hi
      exact h.2.2 i v hv hs
    · rw [if_neg hs] at hi
      cases hi
theorem evv_cat (b base : Nat) (v : AVal) : (evv b base v).category = if ac1 v = true then 1 else 2 := by
  rcases v with x | x | x | x
  · rfl
  · rfl
  · show (va_rf (rfo b base x)).category = _
    cases rfo b base x <;> rfl
  · rfl
theorem lh_set1 {b base : Nat} {lsA ls' : Array Slot} {ls : List AVal} {i : Nat} {v : AVal} (hi : i < ls.length) (hk : okst ls i = true)
    (hh : lv_has ls' ls.length ((i, evv b base v) :: (lvl b base ls).filter (fun q => !(q.1 == i) && !(q.1 + 1 == i && q.2.category == 2)))) : LH b base ls' (ls.set i v) := by
  refine ⟨by rw [List.length_set]; exact hh.1, hh.2.1, fun k w hw hs => ?_⟩
  by_cases hki : k = i
  · subst hki
    rw [List.getElem?_set_self hi] at hw
    cases hw
    exact hh.2.2 (k, evv b base v) List.mem_cons_self
  · rw [List.getElem?_set_ne (Ne.symm hki)] at hw
    refine hh.2.2 (k, evv b base w) (List.mem_cons_of_mem _ (List.mem_filter.mpr ⟨lvl_mem hw hs, ?_⟩))
    have h1 : (k == i) = false := by simpa using hki
    have h2 : (k + 1 == i && (evv b base w).category == 2) = false := by
      rw [evv_cat]
      by_cases e : k + 1 = i
      · subst e
        simp only [okst, hw] at hk
        rcases w with x | x | x | x
        · simp [ac1]
        · simp at hk
        · simp [ac1]
        · simp [ac1]
      · simp [e]
    simp only [h1, h2]
    rfl
theorem lh_set2 {b base : Nat} {lsA ls' : Array Slot} {ls : List AVal} {i : Nat} {v : AVal} (hi : i + 1 < ls.length) (hk : okst ls i = true)
    (hh : lv_has ls' ls.length ((i, evv b base v) :: (lvl b base ls).filter (fun q => !(q.1 == i) && (!(q.1 == i + 1) && !(q.1 + 1 == i && q.2.category == 2))))) : LH b base ls' ((ls.set i v).set (i + 1) vU) := by
  refine ⟨by rw [List.length_set, List.length_set]; exact hh.1, hh.2.1, fun k w hw hs => ?_⟩
  by_cases hki1 : k = i + 1
  · subst hki1
    rw [List.getElem?_set_self (by rw [List.length_set]; exact hi)] at hw
    cases hw
    cases hs
  · rw [List.getElem?_set_ne (Ne.symm hki1)] at hw
    by_cases hki : k = i
    · subst hki
      rw [List.getElem?_set_self (by omega)] at hw
      cases hw
      exact hh.2.2 (k, evv b base v) List.mem_cons_self
    · rw [List.getElem?_set_ne (Ne.symm hki)] at hw
      refine hh.2.2 (k, evv b base w) (List.mem_cons_of_mem _ (List.mem_filter.mpr ⟨lvl_mem hw hs, ?_⟩))
      have h1 : (k == i) = false := by simpa using hki
      have h3 : (k == i + 1) = false := by simpa using hki1
      have h2 : (k + 1 == i && (evv b base w).category == 2) = false := by
        rw [evv_cat]
        by_cases e : k + 1 = i
        · subst e
          simp only [okst, hw] at hk
          rcases w with x | x | x | x
          · simp [ac1]
          · simp at hk
          · simp [ac1]
          · simp [ac1]
        · simp [e]
      simp only [h1, h2, h3]
      rfl
def SFc (b base L : Nat) (xs : Nat → Int32) (D : va_G) (cs : Nat → ClassId) (s : State) (lsA : Array Slot) (ls st : List AVal) (sh : List AShp) (g : AMem) (H : Heap) (locs : List Loc) : Prop :=
  va_P D vwCl (WSa b base cs sh g) H ∧ PF L xs sh g ∧ va_S (fun q : Nat => base ≤ q) s.heap H locs ∧ LH b base lsA ls ∧ (∀ v ∈ ls, okV v) ∧ ∀ v ∈ st, okV v
/-- what stays through a method -/
def Cxt (b base L : Nat) (xs : Nat → Int32) (D : va_G) (cs : Nat → ClassId) (j n0 : Nat) (Ts : List Cond) (p : Program) (R : Room) (s : State) (m : MethodId) (args : Array Value) (meth : Method) (c : Code) : Prop :=
  p.tables.exec = Jvm.exec ∧ c.code = bcm j ∧ s.vm.findClass (ynm j).cls = some m.cls ∧ (∀ w ∈ Ts, w.before args s = true) ∧ (∀ w ∈ wsA, w ∈ Ts) ∧ KF D cs s ∧ va_X b L xs s s.heap ∧ b < base ∧ (2 ≤ n0 ∧ s.heap.size = base + (n0 - 2)) ∧ ((ynm j).name = "<init>" → meth.name = "<init>") ∧ (mtd j).2.2.2.2.1 ≤ R.frames ∧ (mtd j).2.2.2.2.2.1 ≤ R.locals
theorem clsOK : ∀ (x : Nat) (C : String) (T : u_T) (N : Nat), vwCl[x]? = some (C, T, N) → N = (jfld x).length ∧ x < 11 ∧ (∀ a, a < N → ∀ b, b < N → a ≠ b → (T a).2.1 ≠ (T b).2.1) ∧ (∀ k, k < N → (T k).1 = C) ∧ ∃ ty : Nat → FieldType, (∀ k, k < N → parseFieldDescriptor (T k).2.2.1 = some (ty k)) ∧ ∀ k, k < N → defaultValue (ty k) = evv 0 0 (fvl ((jfld x).getD k 0) 0 0) := by
  intro x C T N h
  match x, h with
  | 0, h => cases h; exact ⟨rfl, by decide, nmX0, by decide +kernel, tyX0, tyX0_ok, by decide +kernel⟩
  | 1, h => cases h; exact ⟨rfl, by decide, nmX1, by decide +kernel, tyX1, tyX1_ok, by decide +kernel⟩
  | 2, h => cases h; exact ⟨rfl, by decide, nmX2, by decide +kernel, tyX2, tyX2_ok, by decide +kernel⟩
  | 3, h => cases h; exact ⟨rfl, by decide, nmX3, by decide +kernel, tyX3, tyX3_ok, by decide +kernel⟩
  | 4, h => cases h; exact ⟨rfl, by decide, nmX4, by decide +kernel, tyX4, tyX4_ok, by decide +kernel⟩
  | 5, h => cases h; exact ⟨rfl, by decide, nmX5, by decide +kernel, tyX5, tyX5_ok, by decide +kernel⟩
  | 6, h => cases h; exact ⟨rfl, by decide, nmX6, by decide +kernel, tyX6, tyX6_ok, by decide +kernel⟩
  | 7, h => cases h; exact ⟨rfl, by decide, nmX8, by decide +kernel, tyX8, tyX8_ok, by decide +kernel⟩
  | 8, h => cases h; exact ⟨rfl, by decide, nmX10, by decide +kernel, tyX10, tyX10_ok, by decide +kernel⟩
  | 9, h => cases h; exact ⟨rfl, by decide, nmX11, by decide +kernel, tyX11, tyX11_ok, by decide +kernel⟩
  | 10, h => cases h; exact ⟨rfl, by decide, nmX12, by decide +kernel, tyX12, tyX12_ok, by decide +kernel⟩
  | x + 11, h => simp [vwCl] at h
theorem cls_wA : ∀ (x : Nat) (C : String) (T : u_T) (N : Nat), vwCl[x]? = some (C, T, N) → ∀ w ∈ u_ws C T N, w ∈ wsA := by
  intro x C T N h
  match x, h with
  | 0, h => cases h; exact wchk_in (hs := [(1, 50), (1, 52)]) (by decide +kernel)
  | 1, h => cases h; exact wchk_in (hs := [(1, 228)]) (by decide +kernel)
  | 2, h => cases h; exact wchk_in (hs := [(1, 78), (1, 80), (1, 82), (1, 84)]) (by decide +kernel)
  | 3, h => cases h; exact wchk_in (hs := [(1, 99), (1, 101), (1, 103), (1, 105)]) (by decide +kernel)
  | 4, h => cases h; exact wchk_in (hs := [(1, 154), (1, 156), (1, 158)]) (by decide +kernel)
  | 5, h => cases h; exact wchk_in (hs := [(1, 215), (1, 217)]) (by decide +kernel)
  | 6, h => cases h; exact wchk_in (hs := [(1, 185), (1, 187), (1, 189), (1, 191), (1, 193), (1, 195), (1, 197), (1, 199), (1, 201), (1, 203)]) (by decide +kernel)
  | 7, h => cases h; exact wchk_in (hs := [(1, 133), (1, 135), (1, 137), (1, 139)]) (by decide +kernel)
  | 8, h => cases h; exact wchk_in (hs := [(1, 118), (1, 120)]) (by decide +kernel)
  | 9, h => cases h; exact wchk_in (hs := [(2, 5), (2, 7), (2, 9), (2, 11), (2, 13), (2, 15), (2, 17), (2, 19), (2, 21), (2, 23), (2, 25), (2, 27), (2, 29), (2, 31)]) (by decide +kernel)
  | 10, h => cases h; exact wchk_in (hs := [(4, 122), (4, 124), (4, 126), (4, 128), (4, 130), (4, 132), (4, 134), (4, 136), (4, 138), (4, 140), (4, 142), (4, 144), (4, 146), (4, 148), (4, 150), (4, 152), (4, 154), (4, 156), (4, 158), (4, 160), (4, 162), (4, 164), (4, 166), (4, 168), (4, 170), (4, 172), (4, 174), (4, 176)]) (by decide +kernel)
  | x + 11, h => simp [vwCl] at h
theorem vcl_at {x : Nat} (h : x < 11) : vwCl[x]? = some ((vcl x).1, (vcl x).2.1, (vcl x).2.2) := by
  match x, h with
  | 0, _ => rfl
  | 1, _ => rfl
  | 2, _ => rfl
  | 3, _ => rfl
  | 4, _ => rfl
  | 5, _ => rfl
  | 6, _ => rfl
  | 7, _ => rfl
  | 8, _ => rfl
  | 9, _ => rfl
  | 10, _ => rfl
  | x + 11, h => exact absurd h (by omega)
section SND
variable {p : Program} {l : Launch} {e : Env} {R : Room} {s : State} {m : MethodId} {args : Array Value} {below : List Frame} {meth : Method} {c : Code} {Q : State → Prop}
variable {b base L j n0 s0 : Nat} {xs : Nat → Int32} {D : va_G} {cs : Nat → ClassId} {Ts : List Cond} {pc pc' pc1 x y : Nat} {z : Int} {ls ls' st st' : List AVal} {sh sh' : List AShp} {g g' : AMem} {lsA : Array Slot} {H : Heap} {locs : List Loc}
theorem okS_tail {v : AVal} {r : List AVal} (h : ∀ w ∈ v :: r, okV w) : ∀ w ∈ r, okV w := fun w hw => h w (List.mem_cons_of_mem _ hw)
theorem okS_head {v : AVal} {r : List AVal} (h : ∀ w ∈ v :: r, okV w) : okV v := h v List.mem_cons_self
theorem okS_cons {v : AVal} {r : List AVal} (h1 : okV v) (h2 : ∀ w ∈ r, okV w) : ∀ w ∈ v :: r, okV w := fun w hw => (List.mem_cons.mp hw).elim (fun e => e ▸ h1) (h2 w)
theorem okS_set {v : AVal} {r : List AVal} {i : Nat} (h1 : okV v) (h2 : ∀ w ∈ r, okV w) : ∀ w ∈ r.set i v, okV w := fun w hw => (List.mem_or_eq_of_mem_set hw).elim (h2 w) (fun e => e ▸ h1)
theorem SFc.stk {st1 : List AVal} (h : SFc b base L xs D cs s lsA ls st sh g H locs) (k : ∀ w ∈ st1, okV w) : SFc b base L xs D cs s lsA ls st1 sh g H locs := ⟨h.1, h.2.1, h.2.2.1, h.2.2.2.1, h.2.2.2.2.1, k⟩
theorem SFc.lcl {ls1 st1 : List AVal} {lsA1 : Array Slot} (h : SFc b base L xs D cs s lsA ls st sh g H locs) (k1 : LH b base lsA1 ls1) (k2 : ∀ w ∈ ls1, okV w) (k : ∀ w ∈ st1, okV w) : SFc b base L xs D cs s lsA1 ls1 st1 sh g H locs := ⟨h.1, h.2.1, h.2.2.1, k1, k2, k⟩
theorem SFc.stO (h : SFc b base L xs D cs s lsA ls st sh g H locs) : ∀ w ∈ st, okV w := h.2.2.2.2.2
theorem SFc.lsO (h : SFc b base L xs D cs s lsA ls st sh g H locs) : ∀ w ∈ ls, okV w := h.2.2.2.2.1
theorem SFc.lhO (h : SFc b base L xs D cs s lsA ls st sh g H locs) : LH b base lsA ls := h.2.2.2.1
theorem SFc.lsz (h : SFc b base L xs D cs s lsA ls st sh g H locs) : lsA.size = ls.length := h.2.2.2.1.1
/-- a pushed constant -/
theorem sr_push {v : AVal} {w : Value} (hv : evv b base v = w) (ho : okV v) (hS : SFc b base L xs D cs s lsA ls st sh g H locs)
    (row : W p l e R s m args below meth c H locs (sh.length - n0) (slt sh - s0) Q (F0 m pc' lsA (w :: st.map (evv b base))) → W p l e R s m args below meth c H locs (sh.length - n0) (slt sh - s0) Q (F0 m pc lsA (st.map (evv b base))))
    (kk : ∀ lsA' H' locs', SFc b base L xs D cs s lsA' ls (v :: st) sh g H' locs' → W p l e R s m args below meth c H' locs' (sh.length - n0) (slt sh - s0) Q (F0 m pc' lsA' ((v :: st).map (evv b base)))) : W p l e R s m args below meth c H locs (sh.length - n0) (slt sh - s0) Q (F0 m pc lsA (st.map (evv b base))) := by
  subst hv
  exact row (kk lsA H locs (hS.stk (okS_cons ho hS.stO)))
theorem sr_ldI {i : Nat} (h : a_ldI i pc' ls st sh g = some (pc1, ls', st', sh', g')) (hS : SFc b base L xs D cs s lsA ls st sh g H locs)
    (row : ∀ x : Int32, lsA[i]? = some (.val (.int x)) → W p l e R s m args below meth c H locs (sh.length - n0) (slt sh - s0) Q (F0 m pc' lsA (.int x :: st.map (evv b base))) → W p l e R s m args below meth c H locs (sh.length - n0) (slt sh - s0) Q (F0 m pc lsA (st.map (evv b base))))
    (kk : ∀ lsA' H' locs', SFc b base L xs D cs s lsA' ls' st' sh' g' H' locs' → W p l e R s m args below meth c H' locs' (sh'.length - n0) (slt sh' - s0) Q (F0 m pc1 lsA' (st'.map (evv b base)))) : W p l e R s m args below meth c H locs (sh.length - n0) (slt sh - s0) Q (F0 m pc lsA (st.map (evv b base))) := by
  unfold a_ldI at h
  split at h
  · rename_i x hx
    cases h
    exact row _ (hS.lhO.2.2 i _ hx rfl) (kk lsA H locs (hS.stk (okS_cons (hS.lsO _ (List.mem_of_getElem? hx)) hS.stO)))
  · cases h
theorem sr_ldL {i : Nat} (h : a_ldL i pc' ls st sh g = some (pc1, ls', st', sh', g')) (hS : SFc b base L xs D cs s lsA ls st sh g H locs)
    (row : ∀ x : Int64, lsA[i]? = some (.val (.long x)) → W p l e R s m args below meth c H locs (sh.length - n0) (slt sh - s0) Q (F0 m pc' lsA (.long x :: st.map (evv b base))) → W p l e R s m args below meth c H locs (sh.length - n0) (slt sh - s0) Q (F0 m pc lsA (st.map (evv b base))))
    (kk : ∀ lsA' H' locs', SFc b base L xs D cs s lsA' ls' st' sh' g' H' locs' → W p l e R s m args below meth c H' locs' (sh'.length - n0) (slt sh' - s0) Q (F0 m pc1 lsA' (st'.map (evv b base)))) : W p l e R s m args below meth c H locs (sh.length - n0) (slt sh - s0) Q (F0 m pc lsA (st.map (evv b base))) := by
  unfold a_ldL at h
  split at h
  · rename_i x hx
    cases h
    exact row _ (hS.lhO.2.2 i _ hx rfl) (kk lsA H locs (hS.stk (okS_cons (hS.lsO _ (List.mem_of_getElem? hx)) hS.stO)))
  · cases h
theorem sr_ldR {i : Nat} (h : a_ldR i pc' ls st sh g = some (pc1, ls', st', sh', g')) (hS : SFc b base L xs D cs s lsA ls st sh g H locs)
    (row : ∀ x : Nat, lsA[i]? = some (.val (.ref x)) → W p l e R s m args below meth c H locs (sh.length - n0) (slt sh - s0) Q (F0 m pc' lsA (.ref x :: st.map (evv b base))) → W p l e R s m args below meth c H locs (sh.length - n0) (slt sh - s0) Q (F0 m pc lsA (st.map (evv b base))))
    (kk : ∀ lsA' H' locs', SFc b base L xs D cs s lsA' ls' st' sh' g' H' locs' → W p l e R s m args below meth c H' locs' (sh'.length - n0) (slt sh' - s0) Q (F0 m pc1 lsA' (st'.map (evv b base)))) : W p l e R s m args below meth c H locs (sh.length - n0) (slt sh - s0) Q (F0 m pc lsA (st.map (evv b base))) := by
  unfold a_ldR at h
  split at h
  · rename_i x hx
    split at h
    · rename_i h1
      cases h
      have e := evv_r (b := b) (base := base) h1
      have h2 := hS.lhO.2.2 i _ hx rfl
      rw [e] at h2
      have h3 := kk lsA H locs (hS.stk (okS_cons (hS.lsO _ (List.mem_of_getElem? hx)) hS.stO))
      rw [List.map_cons, e] at h3
      exact row _ h2 h3
    · cases h
  · cases h
theorem sr_stI {i : Nat} (h : a_stI i pc' ls st sh g = some (pc1, ls', st', sh', g')) (hS : SFc b base L xs D cs s lsA ls st sh g H locs)
    (row : ∀ (x : Int32) (r : List Value), lv_has lsA ls.length (lvl b base ls) → i < ls.length → (∀ ls1 : Array Slot, lv_has ls1 ls.length ((i, Value.int x) :: (lvl b base ls).filter (fun q => !(q.1 == i) && !(q.1 + 1 == i && q.2.category == 2))) → W p l e R s m args below meth c H locs (sh.length - n0) (slt sh - s0) Q (F0 m pc' ls1 (r))) → W p l e R s m args below meth c H locs (sh.length - n0) (slt sh - s0) Q (F0 m pc lsA (.int x :: r)))
    (kk : ∀ lsA' H' locs', SFc b base L xs D cs s lsA' ls' st' sh' g' H' locs' → W p l e R s m args below meth c H' locs' (sh'.length - n0) (slt sh' - s0) Q (F0 m pc1 lsA' (st'.map (evv b base)))) : W p l e R s m args below meth c H locs (sh.length - n0) (slt sh - s0) Q (F0 m pc lsA (st.map (evv b base))) := by
  unfold a_stI at h
  split at h
  · rename_i x r
    split at h
    · rename_i h1
      cases h
      exact row _ _ hS.lhO.has h1.1 (fun ls1 h2 => kk ls1 H locs (hS.lcl (lh_set1 (lsA := lsA) h1.1 h1.2 h2) (okS_set (okS_head hS.stO) hS.lsO) (okS_tail hS.stO)))
    · cases h
  · cases h
theorem sr_stR {i : Nat} (h : a_stR i pc' ls st sh g = some (pc1, ls', st', sh', g')) (hS : SFc b base L xs D cs s lsA ls st sh g H locs)
    (row : ∀ (x : Nat) (r : List Value), lv_has lsA ls.length (lvl b base ls) → i < ls.length → (∀ ls1 : Array Slot, lv_has ls1 ls.length ((i, Value.ref x) :: (lvl b base ls).filter (fun q => !(q.1 == i) && !(q.1 + 1 == i && q.2.category == 2))) → W p l e R s m args below meth c H locs (sh.length - n0) (slt sh - s0) Q (F0 m pc' ls1 (r))) → W p l e R s m args below meth c H locs (sh.length - n0) (slt sh - s0) Q (F0 m pc lsA (.ref x :: r)))
    (kk : ∀ lsA' H' locs', SFc b base L xs D cs s lsA' ls' st' sh' g' H' locs' → W p l e R s m args below meth c H' locs' (sh'.length - n0) (slt sh' - s0) Q (F0 m pc1 lsA' (st'.map (evv b base)))) : W p l e R s m args below meth c H locs (sh.length - n0) (slt sh - s0) Q (F0 m pc lsA (st.map (evv b base))) := by
  unfold a_stR at h
  split at h
  · rename_i x r
    split at h
    · rename_i h1
      cases h
      have e := evv_r (b := b) (base := base) h1.2.2
      rw [List.map_cons, e]
      exact row _ _ hS.lhO.has h1.1 (fun ls1 h2 => kk ls1 H locs (hS.lcl (lh_set1 (lsA := lsA) h1.1 h1.2.1 (by rw [e]; exact h2)) (okS_set (okS_head hS.stO) hS.lsO) (okS_tail hS.stO)))
    · cases h
  · cases h
theorem sr_stL {i : Nat} (h : a_stL i pc' ls st sh g = some (pc1, ls', st', sh', g')) (hS : SFc b base L xs D cs s lsA ls st sh g H locs)
    (row : ∀ (x : Int64) (r : List Value), lv_has lsA ls.length (lvl b base ls) → i + 1 < ls.length → (∀ ls1 : Array Slot, lv_has ls1 ls.length ((i, Value.long x) :: (lvl b base ls).filter (fun q => !(q.1 == i) && (!(q.1 == i + 1) && !(q.1 + 1 == i && q.2.category == 2)))) → W p l e R s m args below meth c H locs (sh.length - n0) (slt sh - s0) Q (F0 m pc' ls1 (r))) → W p l e R s m args below meth c H locs (sh.length - n0) (slt sh - s0) Q (F0 m pc lsA (.long x :: r)))
    (kk : ∀ lsA' H' locs', SFc b base L xs D cs s lsA' ls' st' sh' g' H' locs' → W p l e R s m args below meth c H' locs' (sh'.length - n0) (slt sh' - s0) Q (F0 m pc1 lsA' (st'.map (evv b base)))) : W p l e R s m args below meth c H locs (sh.length - n0) (slt sh - s0) Q (F0 m pc lsA (st.map (evv b base))) := by
  unfold a_stL at h
  split at h
  · rename_i x r
    split at h
    · rename_i h1
      cases h
      exact row _ _ hS.lhO.has h1.1 (fun ls1 h2 => kk ls1 H locs (hS.lcl (lh_set2 (lsA := lsA) h1.1 h1.2 h2) (okS_set True.intro (okS_set (okS_head hS.stO) hS.lsO)) (okS_tail hS.stO)))
    · cases h
  · cases h
theorem sr_bi {gd : Bool} {f : Int → Int → Int} {fr : Int32 → Int32 → Int32} (h : a_bi gd f pc' ls st sh g = some (pc1, ls', st', sh', g')) (hS : SFc b base L xs D cs s lsA ls st sh g H locs)
    (hf : ∀ x y : Int, iw x = x → iw y = y → Int32.ofInt (f x y) = fr (Int32.ofInt x) (Int32.ofInt y)) (hc : ∀ x y : Int, iw (f x y) = f x y)
    (row : ∀ (x y : Int32) (r : List Value), (gd = true → ¬ y = 0) → W p l e R s m args below meth c H locs (sh.length - n0) (slt sh - s0) Q (F0 m pc' lsA (.int (fr x y) :: r)) → W p l e R s m args below meth c H locs (sh.length - n0) (slt sh - s0) Q (F0 m pc lsA (.int y :: .int x :: r)))
    (kk : ∀ lsA' H' locs', SFc b base L xs D cs s lsA' ls' st' sh' g' H' locs' → W p l e R s m args below meth c H' locs' (sh'.length - n0) (slt sh' - s0) Q (F0 m pc1 lsA' (st'.map (evv b base)))) : W p l e R s m args below meth c H locs (sh.length - n0) (slt sh - s0) Q (F0 m pc lsA (st.map (evv b base))) := by
  unfold a_bi at h
  split at h
  · rename_i y x r
    split at h
    · cases h
    · rename_i h1
      cases h
      have hy : iw y = y := okS_head hS.stO
      have hx : iw x = x := okS_head (okS_tail hS.stO)
      have h3 := kk lsA H locs (hS.stk (okS_cons (hc x y) (okS_tail (okS_tail hS.stO))))
      refine row _ _ _ (fun hg h0 => h1 ⟨hg, ?_⟩) ?_
      · rw [ofI_0, ofI_inj hy iw_0] at h0
        exact h0
      · rw [← hf x y hx hy]
        exact h3
  · cases h
theorem sr_bl {gd : Bool} {f : Int → Int → Int} {fr : Int64 → Int64 → Int64} (h : a_bl gd f pc' ls st sh g = some (pc1, ls', st', sh', g')) (hS : SFc b base L xs D cs s lsA ls st sh g H locs)
    (hf : ∀ x y : Int, lw x = x → lw y = y → Int64.ofInt (f x y) = fr (Int64.ofInt x) (Int64.ofInt y)) (hc : ∀ x y : Int, lw (f x y) = f x y)
    (row : ∀ (x y : Int64) (r : List Value), (gd = true → ¬ y = 0) → W p l e R s m args below meth c H locs (sh.length - n0) (slt sh - s0) Q (F0 m pc' lsA (.long (fr x y) :: r)) → W p l e R s m args below meth c H locs (sh.length - n0) (slt sh - s0) Q (F0 m pc lsA (.long y :: .long x :: r)))
    (kk : ∀ lsA' H' locs', SFc b base L xs D cs s lsA' ls' st' sh' g' H' locs' → W p l e R s m args below meth c H' locs' (sh'.length - n0) (slt sh' - s0) Q (F0 m pc1 lsA' (st'.map (evv b base)))) : W p l e R s m args below meth c H locs (sh.length - n0) (slt sh - s0) Q (F0 m pc lsA (st.map (evv b base))) := by
  unfold a_bl at h
  split at h
  · rename_i y x r
    split at h
    · cases h
    · rename_i h1
      cases h
      have hy : lw y = y := okS_head hS.stO
      have hx : lw x = x := okS_head (okS_tail hS.stO)
      have h3 := kk lsA H locs (hS.stk (okS_cons (hc x y) (okS_tail (okS_tail hS.stO))))
      refine row _ _ _ (fun hg h0 => h1 ⟨hg, ?_⟩) ?_
      · rw [ofL_0, ofL_inj hy lw_0] at h0
        exact h0
      · rw [← hf x y hx hy]
        exact h3
  · cases h
theorem sr_if {cn : ClassFile.Cond} {t f : Nat} (h : a_if cn t f ls st sh g = some (pc1, ls', st', sh', g')) (hS : SFc b base L xs D cs s lsA ls st sh g H locs)
    (row : ∀ (x : Int) (r : List Value), iw x = x → (acnd cn x 0 → W p l e R s m args below meth c H locs (sh.length - n0) (slt sh - s0) Q (F0 m t lsA (r))) → (¬ acnd cn x 0 → W p l e R s m args below meth c H locs (sh.length - n0) (slt sh - s0) Q (F0 m f lsA (r))) → W p l e R s m args below meth c H locs (sh.length - n0) (slt sh - s0) Q (F0 m pc lsA (.int (Int32.ofInt x) :: r)))
    (kk : ∀ lsA' H' locs', SFc b base L xs D cs s lsA' ls' st' sh' g' H' locs' → W p l e R s m args below meth c H' locs' (sh'.length - n0) (slt sh' - s0) Q (F0 m pc1 lsA' (st'.map (evv b base)))) : W p l e R s m args below meth c H locs (sh.length - n0) (slt sh - s0) Q (F0 m pc lsA (st.map (evv b base))) := by
  unfold a_if at h
  split at h
  · rename_i x r
    split at h
    · rename_i hd hdd
      cases h
      exact row x _ (okS_head hS.stO) (fun _ => kk lsA H locs (hS.stk (okS_tail hS.stO))) (fun hn => absurd hd hn)
    · rename_i hd hdd
      cases h
      exact row x _ (okS_head hS.stO) (fun hn => absurd hn hd) (fun _ => kk lsA H locs (hS.stk (okS_tail hS.stO)))
  · cases h
theorem sr_ic {cn : ClassFile.Cond} {t f : Nat} (h : a_ic cn t f ls st sh g = some (pc1, ls', st', sh', g')) (hS : SFc b base L xs D cs s lsA ls st sh g H locs)
    (row : ∀ (x y : Int) (r : List Value), iw x = x → iw y = y → (acnd cn x y → W p l e R s m args below meth c H locs (sh.length - n0) (slt sh - s0) Q (F0 m t lsA (r))) → (¬ acnd cn x y → W p l e R s m args below meth c H locs (sh.length - n0) (slt sh - s0) Q (F0 m f lsA (r))) → W p l e R s m args below meth c H locs (sh.length - n0) (slt sh - s0) Q (F0 m pc lsA (.int (Int32.ofInt y) :: .int (Int32.ofInt x) :: r)))
    (kk : ∀ lsA' H' locs', SFc b base L xs D cs s lsA' ls' st' sh' g' H' locs' → W p l e R s m args below meth c H' locs' (sh'.length - n0) (slt sh' - s0) Q (F0 m pc1 lsA' (st'.map (evv b base)))) : W p l e R s m args below meth c H locs (sh.length - n0) (slt sh - s0) Q (F0 m pc lsA (st.map (evv b base))) := by
  unfold a_ic at h
  split at h
  · rename_i y x r
    split at h
    · rename_i hd hdd
      cases h
      exact row x y _ (okS_head (okS_tail hS.stO)) (okS_head hS.stO) (fun _ => kk lsA H locs (hS.stk (okS_tail (okS_tail hS.stO)))) (fun hn => absurd hd hn)
    · rename_i hd hdd
      cases h
      exact row x y _ (okS_head (okS_tail hS.stO)) (okS_head hS.stO) (fun hn => absurd hn hd) (fun _ => kk lsA H locs (hS.stk (okS_tail (okS_tail hS.stO))))
  · cases h
end SND
