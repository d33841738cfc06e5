/-! THE CLAIM OUT OF ONE WALK OF THE LAW'S BODY. Your part is whole_start (and what it stands on); all else here is the same for every law, but numbers. -/
def R_law : String := "EdgeMovesLaw"
def lw_P (b : Addr) (xs : List Int32) (args : Array Value) (s : State) : Prop := args = #[.ref b] ∧ s.IntsAt b xs ∧ xs.length ≤ 2048 ∧ (Jvm.Cond.and given_1 narrow_1).before args s = true
def lw_Q (_ : Array Value) (s : State) (o : Outcome) (t : State) : Prop := o = .returned (some (.int 1)) ∧ Framed s o t [] 600000 7302249
def lw_Z (below : List Frame) (a : Array Value) (s : State) : State → Prop := fun t => ∃ o, t.status = .running ∧ Ended t below o ∧ lw_Q a s o t
/-- the law's own end, with 1 on the stack, nothing written that was there before, its room as the claim has it -/
theorem lw_ret {p : Program} {l : Launch} {e : Env} {s : State} {m : MethodId} {below : List Frame} {meth : Method} {c : Code} {b : Nat} (hx : p.tables.exec = Jvm.exec) (hb : c.code = code) (hr : meth.sig.returnType = ret) (hlocks : meth.locks = false) {pc : Nat} {H : Heap} {ls : Array Slot} (hdg : decode code pc = .ok (.ireturn, 1)) : W p l e room_1 s m #[Value.ref b] below meth c H [] 600000 7302249 (lw_Z below #[Value.ref b] s) (F0 m pc ls [.int 1]) := by
  intro T hT X
  obtain ⟨fs, hret, hrun, hended, hW, hframe⟩ := X.leave (v := some (.int 1)) (hlocks := hlocks) (fun h => by rw [hr] at h; cases h)
  have hmeth' : T.vm.method? m = some meth := X.method'
  refine ⟨T.setFrames fs, ?_, .returned (some (.int 1)), hrun, hended, rfl, ⟨_, rfl⟩, hW, hframe⟩
  jvm_step X.here [X.here.top, hx, hb, hdg, hmeth', hr, ret, narrow_b1]
  (try refine ⟨rfl, ?_⟩); (try refine ⟨rfl, ?_⟩)
  first | (intro acts; rw [hret _ acts rfl rfl rfl]) | rw [hret _ _ rfl rfl rfl]
  exact Steps.refl _
/-- what holds at the law's entry: the machine, the code, the tables' words (any of lw_tbl by 'hts w (by decide +kernel)'), the script of L ints xs at the cell b, what the Statement gives of the start (any of its parts by flat_of_before) -/
def lw_At (p : Program) (s : State) (m : MethodId) (meth : Method) (c : Code) (b L : Nat) (xs : Nat → Int32) : Prop :=
  p.tables.exec = Jvm.exec ∧ c.code = code ∧ meth.sig.returnType = ret ∧ c.maxLocals = 4 ∧ s.vm.findClass R_law = some m.cls ∧ (∀ w ∈ lw_tbl, w.before #[Value.ref b] s = true) ∧ va_X b L xs s s.heap ∧ b < s.heap.size ∧ meth.locks = false ∧ (Jvm.Cond.and given_1 narrow_1).before #[Value.ref b] s = true

theorem tch_tb {k i : Nat} {w : Cond} (h : (tch k)[i]? = some w) : w ∈ lw_tbl := by
  have hm := List.mem_of_getElem? h
  unfold lw_tbl
  have ht : ∀ q : Cond, q ∈ tables_1_1 ∨ q ∈ tables_1_2 ∨ q ∈ tables_1_3 ∨ q ∈ tables_1_4 ∨ q ∈ tables_1_5 ∨ q ∈ tables_1_6 → q ∈ tables_1 := by
    intro q hq
    unfold tables_1
    simp only [List.mem_append]
    exact hq
  match k, hm with
  | 0, hm => exact List.mem_append_left _ hm
  | 1, hm => exact List.mem_append_right _ (ht _ (Or.inl hm))
  | 2, hm => exact List.mem_append_right _ (ht _ (Or.inr (Or.inl hm)))
  | 3, hm => exact List.mem_append_right _ (ht _ (Or.inr (Or.inr (Or.inl hm))))
  | 4, hm => exact List.mem_append_right _ (ht _ (Or.inr (Or.inr (Or.inr (Or.inl hm)))))
  | 5, hm => exact List.mem_append_right _ (ht _ (Or.inr (Or.inr (Or.inr (Or.inr (Or.inl hm))))))
  | _ + 6, hm => exact List.mem_append_right _ (ht _ (Or.inr (Or.inr (Or.inr (Or.inr (Or.inr hm))))))
theorem tw_ao0 : Cond.arrayOver (.object RX0) ∈ lw_tbl := tch_tb (k := 1) (i := 32) (by decide +kernel)
theorem tw_ao2 : Cond.arrayOver (.object RX2) ∈ lw_tbl := tch_tb (k := 1) (i := 57) (by decide +kernel)
theorem tw_aci : Cond.arrayClass .int ∈ lw_tbl := tch_tb (k := 1) (i := 55) (by decide +kernel)
theorem tw_acz : Cond.arrayClass .boolean ∈ lw_tbl := tch_tb (k := 1) (i := 206) (by decide +kernel)
theorem tw_nest : ∀ w ∈ nestW, w ∈ lw_tbl := by
  intro w hw
  simp only [nestW, List.mem_cons, List.not_mem_nil, or_false] at hw
  rcases hw with rfl | rfl | rfl | rfl
  · exact tch_tb (k := 1) (i := 222) (by decide +kernel)
  · exact tch_tb (k := 2) (i := 62) (by decide +kernel)
  · exact tch_tb (k := 2) (i := 119) (by decide +kernel)
  · exact tch_tb (k := 3) (i := 3) (by decide +kernel)
theorem tw_inst : ∀ (x : Nat) (q : vw_C), vwCl[x]? = some q → Cond.instantiable q.1 q.2.2 ∈ lw_tbl := by
  intro x q h
  match x, h with
  | 0, h => cases h; exact tch_tb (k := 1) (i := 33) (by decide +kernel)
  | 1, h => cases h; exact tch_tb (k := 1) (i := 221) (by decide +kernel)
  | 2, h => cases h; exact tch_tb (k := 1) (i := 58) (by decide +kernel)
  | 3, h => cases h; exact tch_tb (k := 1) (i := 26) (by decide +kernel)
  | 4, h => cases h; exact tch_tb (k := 1) (i := 143) (by decide +kernel)
  | 5, h => cases h; exact tch_tb (k := 1) (i := 208) (by decide +kernel)
  | 6, h => cases h; exact tch_tb (k := 1) (i := 162) (by decide +kernel)
  | 7, h => cases h; exact tch_tb (k := 1) (i := 124) (by decide +kernel)
  | 8, h => cases h; exact tch_tb (k := 1) (i := 109) (by decide +kernel)
  | 9, h => cases h; exact tch_tb (k := 1) (i := 18) (by decide +kernel)
  | 10, h => cases h; exact tch_tb (k := 4) (i := 89) (by decide +kernel)
  | x + 11, h => simp [vwCl] at h
/-- the script, and nothing made yet -/
def shS (L : Nat) : List AShp := [(99, 0, []), (30, L, [])]
def gS (L : Nat) (xs : Nat → Int32) : AMem := fun a k => if a = 1 ∧ 0 ≤ k ∧ k < L then (xs k.toNat).toInt else 0
/-- what is left to show, of numbers alone -/
def LawOK : Prop := ∀ (L : Nat), L ≤ 2048 → ∀ xs : Nat → Int32, ∃ (n : Nat) (sh' : List AShp) (g' : AMem), ex n nlaw 0 [vR 1, vU, vU, vU] [] (shS L) (gS L xs) = some ([vI 1], sh', g') ∧ sh'.length ≤ 600000 ∧ slt sh' ≤ 7302249
theorem KF_start {s : State} {a : Array Value} (hts : ∀ w ∈ lw_tbl, w.before a s = true) : ∃ (D : va_G) (cs : Nat → ClassId), KF D cs s := by
  have h : ∀ x : Nat, ∃ d : ClassId × (Nat → Nat), ∀ q : vw_C, vwCl[x]? = some q → u_Kn s q.1 q.2.1 q.2.2 d.1 d.2 := by
    intro x
    cases hx : vwCl[x]? with
    | none => exact ⟨(0, fun _ => 0), fun q h => by cases h⟩
    | some q =>
      obtain ⟨C, T, N⟩ := q
      obtain ⟨cC, iS, hk⟩ := u_known (C := C) (T := T) (N := N) (n := N) hts (fun w hw => (List.mem_filter.mp (cls_wA x C T N hx w hw)).1) (hts _ (tw_inst x _ hx))
      exact ⟨(cC, iS), fun q hq => by cases hq; exact hk⟩
  obtain ⟨d, hd⟩ := Classical.axiomOfChoice h
  obtain ⟨cI, kI, pI, i1, i2, i3⟩ := Cond.arrayClass_spec (hts _ tw_aci)
  obtain ⟨cZ, kZ, pZ, z1, z2, z3⟩ := Cond.arrayClass_spec (hts _ tw_acz)
  obtain ⟨pB, cB, kB, b1, b2, b3, b4, b5⟩ := Cond.arrayOver_spec (hts _ tw_ao0)
  obtain ⟨pE, cE, kE, e1, e2, e3, e4, e5⟩ := Cond.arrayOver_spec (hts _ tw_ao2)
  refine ⟨(fun x => (d x).1, fun x => (d x).2), fun t => if t = 0 then cI else if t = 1 then cZ else if t = 2 then cB else cE, ⟨hd, fun k q hq => ?_⟩, va_AO.of (hts _ tw_ao0), va_AO.of (hts _ tw_ao2), fun w hw => va_Nw.of (onT w hw) (hts _ (tw_nest w hw))⟩
  match k, hq with
  | 0, hq => cases hq; exact ⟨fun n z => ⟨fun k h => (by cases h), kI, i2, pI, i3⟩, i1⟩
  | 1, hq => cases hq; exact ⟨fun n z => ⟨fun k h => (by cases h), kZ, z2, pZ, z3⟩, z1⟩
  | 2, hq => cases hq; exact ⟨fun n z => ⟨fun k h => (by cases h), kB, b3, pB, b4⟩, kB, pB, b3, b4, b1, b5⟩
  | 3, hq => cases hq; exact ⟨fun n z => ⟨fun k h => (by cases h), kE, e3, pE, e4⟩, kE, pE, e3, e4, e1, e5⟩
  | k + 4, hq => simp [TYs] at hq
theorem okM_start (L : Nat) (xs : Nat → Int32) : okM (shS L) (gS L xs) := by
  intro a k
  have h : iw (gS L xs a k) = gS L xs a k := by
    unfold gS
    split
    · exact iw_toInt _
    · exact iw_0
  exact ⟨fun _ => h, fun _ => lw_of_iw h⟩
theorem start_of (hlaw : LawOK) (hrok : ∀ j, j < nmeth → ∀ r ∈ codL j, rok j r) {p : Program} {e : Env} {s : State} {m : MethodId} {below : List Frame} {meth : Method} {c : Code} (l : Launch) (hflags : l.flags = flags0) {b L : Nat} {xs : Nat → Int32} (hL : L ≤ 2048) (C0 : lw_At p s m meth c b L xs) : W p l e room_1 s m #[Value.ref b] below meth c s.heap [] 0 0 (lw_Z below #[Value.ref b] s) (entryFrame m ([Value.ref b] : List Value).toArray 4) := by
  obtain ⟨hx, hb, hr, hml, hown, hts, hX, hbl, hlocks, hgv⟩ := C0
  obtain ⟨D, cs, hK⟩ := KF_start hts
  obtain ⟨n, sh', g', hex, hc1, hc2⟩ := hlaw L hL xs
  have hfx := ex_fx n _ _ _ _ _ _ _ hex
  have hF : PF L xs (shS L) (gS L xs) := by
    refine ⟨Nat.le_refl _, rfl, rfl, hL, okM_start L xs, fun j hj => ?_⟩
    rw [show gS L xs 1 j = (xs j).toInt from by unfold gS; rw [if_pos ⟨rfl, by omega, by omega⟩, Int.toNat_natCast]]
    exact Int32.ofInt_toInt _
  have hC : Cxt b s.heap.size L xs D cs nlaw 2 lw_tbl p room_1 s m #[Value.ref b] meth c :=
    ⟨hx, hb, hown, hts, fun w hw => (List.mem_filter.mp hw).1, hK, hX, hbl, ⟨Nat.le_refl _, rfl⟩, fun h => absurd h (by decide), by decide +kernel, by decide +kernel⟩
  rw [lg_entry_eq]
  have hent := ent_LH b s.heap.size (l := [vR 1]) (n := 4) (by decide)
  have k := good_all hrok n nlaw (by decide) (l := l) (e := e) (below := below) (Q := lw_Z below #[Value.ref b] s) (n0 := 2) (s0 := slt (shS L)) 0 [vR 1, vU, vU, vU] [] (shS L) (gS L xs) [vI 1] sh' g' _ s.heap [] hex hC (by rw [hml]; rfl) ⟨fun k q h => by simp [WSa, shS] at h, hF, va_S.rf, hent, fun v hv => ?_, fun v hv => by cases hv⟩ (Nat.le_refl _) (Nat.le_refl _) (Nat.le_trans (Nat.sub_le _ _) hc1) (Nat.le_trans (Nat.sub_le _ _) hc2) ?_
  · rw [Nat.sub_self] at k
    exact k
  · simp only [List.mem_cons, List.not_mem_nil, or_false] at hv
    rcases hv with rfl | rfl | rfl | rfl <;> exact True.intro
  · intro pc' ins lsA' ls2 st' H' locs' hdg hend hSF
    have hst := end_sub hend
    have hm : (mtd nlaw).2.2.1 = 2 := by decide +kernel
    rw [hm] at hend
    rw [← hst.1]
    clear hst hm
    unfold a_end at hend
    split at hend
    · rename_i h0; cases h0
    · split at hend
      · cases hend
        refine va_forget (fun q hq => hSF.2.2.1.2.2 q hq) ?_
        refine W.widen (k := 600000) (n := 7302249) (Nat.le_trans (Nat.sub_le _ _) hc1) (Nat.le_trans (Nat.sub_le _ _) hc2) ?_
        exact lw_ret hx hb hr hlocks hdg
      · cases hend
    · rename_i h0; cases h0
    · rename_i h0; cases h0
    · rename_i h0; cases h0
    · cases hend
