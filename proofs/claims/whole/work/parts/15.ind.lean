theorem look_mem : ∀ (t : List ACe) (pc : Nat) (v : Instr × (Nat × (Nat × (Nat × Int)))), look t pc = some v → (pc, v) ∈ t
  | [], _, _, h => by cases h
  | q :: t, pc, v, h => by
    unfold look at h
    split at h
    · rename_i e
      cases h
      have := Nat.eq_of_beq_eq_true e
      subst this
      exact List.mem_cons_self
    · exact List.mem_cons_of_mem _ (look_mem t pc v h)
/-- what the rows of the methods say, and where they end -/
def GoodAt (n : Nat) : Prop := ∀ (j : Nat), j < nmeth → ∀ {p : Program} {l : Launch} {e : Env} {R : Room} {s : State} {m : MethodId} {args : Array Value} {below : List Frame} {meth : Method} {c : Code} {Q : State → Prop} {b base L n0 s0 : Nat} {xs : Nat → Int32} {D : va_G} {cs : Nat → ClassId} {Ts : List Cond} (pc : Nat) (ls st : List AVal) (sh : List AShp) (g : AMem) (rv : List AVal) (sh' : List AShp) (g' : AMem) (lsA : Array Slot) (H : Heap) (locs : List Loc),
  ex n j pc ls st sh g = some (rv, sh', g') → Cxt b base L xs D cs j n0 Ts p R s m args meth c → c.maxLocals = ls.length → SFc b base L xs D cs s lsA ls st sh g H locs → n0 ≤ sh.length → s0 ≤ slt sh → sh'.length - n0 ≤ R.cells → slt sh' - s0 ≤ R.slots →
  (∀ (pc' : Nat) (ins : Instr) (lsA' : Array Slot) (ls2 st' : List AVal) (H' : Heap) (locs' : List Loc), decode (bcm j) pc' = .ok (ins, 1) → a_end ins (mtd j).2.2.1 st' = some rv → SFc b base L xs D cs s lsA' ls2 st' sh' g' H' locs' → W p l e R s m args below meth c H' locs' (sh'.length - n0) (slt sh' - s0) Q (F0 m pc' lsA' (st'.map (evv b base)))) →
  W p l e R s m args below meth c H locs (sh.length - n0) (slt sh - s0) Q (F0 m pc lsA (st.map (evv b base)))
abbrev wsm (x : Nat) : List Cond := Cond.code (ynm x) (bcm x) (mtd x).2.1 (rtm x) :: wsA
abbrev rmm (x mc ms : Nat) : Room := { frames := (mtd x).2.2.2.2.1, cells := mc, slots := ms, locals := (mtd x).2.2.2.2.2.1 }
theorem met_of {n : Nat} (IH : GoodAt n) (hrok : ∀ j, j < nmeth → ∀ r ∈ codL j, rok j r) {l : Launch} {b base L : Nat} {xs : Nat → Int32} {D : va_G} {cs : Nat → ClassId} {x : Nat} (hx : x < nlaw) {as : List AVal} {sh : List AShp} {g : AMem} {r : ARes}
    (hex : ex n x 0 (apad (aent as) (mtd x).2.1) [] sh g = some r) (hlen : (aent as).length ≤ (mtd x).2.1) (has : ∀ v ∈ as, okV v) (hbb : b < base) :
    Met l (ynm x) (wsm x) (rmm x (r.2.1.length - sh.length) (slt r.2.1 - slt sh)) (va_Pc (as.map (evv b base)) (fun U => Wdd b base L xs D cs sh g U)) (Qjj b base L xs D cs r.1 r.2.1 r.2.2) (r.2.1.length - sh.length) (slt r.2.1 - slt sh) (fun q : Nat => base ≤ q) := by
  have hrt := rt_all x hx
  unfold rtOK at hrt
  rw [Bool.and_eq_true, decide_eq_true_eq] at hrt
  obtain ⟨hpn, hrt⟩ := hrt
  refine Met.ofW (cc := bcm x) (maxL := (mtd x).2.1) (ret := rtm x) hpn rfl ?_
  intro p e s m args below meth c s₁ B hml hv
  obtain ⟨rfl, hP, hF, hK, hX, hsz⟩ := hv
  have hex1 := B.exec
  have hb := B.bytes
  have hr := B.returns
  have hts := atoms_spec (ws := wsm x) B.pre
  have hown : s.vm.findClass (ynm x).cls = some m.cls := findClass_of_methodNamed B.named
  have hin : meth.name = (ynm x).name := (name_of_methodNamed B.named B.method).1
  have hlk := B.notSynchronized
  have hC : Cxt b base L xs D cs x sh.length (wsm x) p (headSpec (wsm x) (rmm x (r.2.1.length - sh.length) (slt r.2.1 - slt sh))).room s m (as.map (evv b base)).toArray meth c :=
    ⟨hex1, hb, hown, hts, fun w hw => List.mem_cons_of_mem _ hw, hK, hX, hbb, ⟨hF.1, hsz⟩, fun h => hin.trans h, Nat.le_refl _, Nat.le_refl _⟩
  rw [lg_entry_eq]
  have hS : va_S (fun q : Nat => base ≤ q) s.heap s.heap [] := va_S.rf
  have k := IH x (by unfold nlaw at hx; unfold nmeth; omega) (l := l) (e := e) (below := below) (Q := MQ below (Qjj b base L xs D cs r.1 r.2.1 r.2.2) (as.map (evv b base)).toArray s (r.2.1.length - sh.length) (slt r.2.1 - slt sh) (fun q : Nat => base ≤ q)) (n0 := sh.length) (s0 := slt sh) 0 (apad (aent as) (mtd x).2.1) [] sh g r.1 r.2.1 r.2.2 _ s.heap [] hex hC (by rw [hml, pad_len hlen]) ⟨hP, hF, hS, ent_LH b base hlen, ent_ok as has _, fun v hv => by cases hv⟩ (Nat.le_refl _) (Nat.le_refl _) (Nat.le_refl _) (Nat.le_refl _) ?_
  · rw [Nat.sub_self, Nat.sub_self] at k
    exact k
  · intro pc' ins lsA' ls2 st' H' locs' hdg hend hSF
    have hfx := ex_fx n _ _ _ _ _ _ _ hex
    have hst := end_sub hend
    refine w_size (fun hu => ?_)
    have hsz' : H'.size = base + (r.2.1.length - 2) := sz_of hSF.1 hSF.2.2.1 hsz hfx.2.1 hF.1 hu
    have hq : ∀ t : State, t.heap = H' → s.WarmedH t.vm → Qjj b base L xs D cs r.1 r.2.1 r.2.2 (as.map (evv b base)).toArray s (.returned (r.1.map (evv b base)).head?) t := by
      intro t ht hW
      refine ⟨rfl, hst.2, by rw [hst.1]; exact hSF.stO, hSF.2.2.1.F ht, by rw [ht]; exact hSF.1, hSF.2.1, KF_warm hW hK, ?_, by rw [ht]; exact hsz'⟩
      rw [ht]
      exact (hX.moved hW.alike).kept (hSF.2.2.1.2.1 b (by omega) (by omega))
    have hf : ∀ q ∈ locs', base ≤ q.base := hSF.2.2.1.2.2
    rw [← hst.1]
    clear hst
    generalize r.1 = rv at hend hq ⊢
    generalize (mtd x).2.2.1 = rk at hend hrt
    unfold a_end at hend
    split at hend
    · rename_i v
      have : rtm x = some .int := by revert hrt; cases rtm x with | none => simp | some t => cases t <;> simp
      cases hend
      exact W.iret hex1 hb (by rw [hr, this]) hq hf hdg (hlocks := hlk)
    · rename_i v
      have : rtm x = some .boolean := by revert hrt; cases rtm x with | none => simp | some t => cases t <;> simp
      split at hend
      · rename_i h01
        cases hend
        refine W.zret (ty := .boolean) hex1 hb (by rw [hr, this]) ?_ hq hf hdg (hlocks := hlk)
        rcases h01 with rfl | rfl <;> decide +kernel
      · cases hend
    · rename_i v
      have : rtm x = some .long := by revert hrt; cases rtm x with | none => simp | some t => cases t <;> simp
      cases hend
      exact W.lret hex1 hb (by rw [hr, this]) hq hf hdg (hlocks := hlk)
    · rename_i v
      obtain ⟨C, this⟩ : ∃ C, rtm x = some (.object C) := by
        revert hrt
        cases rtm x with
        | none => simp
        | some t => cases t <;> simp
      split at hend
      · rename_i h01
        cases hend
        rw [List.map_cons, List.map_nil, evv_r h01]
        rw [List.map_cons, List.map_nil, evv_r h01] at hq
        exact W.aret hex1 hb (by rw [hr, this]) (Or.inl ⟨C, rfl⟩) (Or.inr ⟨_, rfl⟩) hq hf hdg (hlocks := hlk)
      · cases hend
    · skip
      have : rtm x = none := by revert hrt; cases rtm x with | none => simp | some t => cases t <;> simp
      cases hend
      exact W.vret hex1 hb (by rw [hr, this]) hq hf hdg (hlocks := hlk)
    · cases hend
