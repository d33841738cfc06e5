section GOD
variable {p : Program} {l : Launch} {e : Env} {R : Room} {s : State} {m : MethodId} {args : Array Value} {below : List Frame} {meth : Method} {c : Code} {Q : State → Prop}
variable {b base L j n0 s0 : Nat} {xs : Nat → Int32} {D : va_G} {cs : Nat → ClassId} {Ts : List Cond} {pc x y i n : Nat} {z : Int} {ls st : List AVal} {sh : List AShp} {g : AMem} {lsA : Array Slot} {H : Heap} {locs : List Loc} {r : ARes}
theorem snd_call {aa : Array Value} {rest : List AVal} (hS : SFc b base L xs D cs s lsA ls st sh g H locs) (hn : n0 ≤ sh.length) (hs0 : s0 ≤ slt sh) (hfx : r.1.length ≤ 1 ∧ sh.length ≤ r.2.1.length ∧ slt sh ≤ slt r.2.1)
    (hrun : va_Run p l e R s m args below meth c H locs (sh.length - n0) (slt sh - s0) (r.2.1.length - sh.length) (slt r.2.1 - slt sh) (F0 m pc lsA (st.map (evv b base))) (rest.map (evv b base)) (Qjj b base L xs D cs r.1 r.2.1 r.2.2 aa) (fun q : Nat => base ≤ q)) (hrest : ∀ v ∈ rest, okV v)
    (kk : ∀ lsA' H' locs', SFc b base L xs D cs s lsA' ls (r.1 ++ rest) r.2.1 r.2.2 H' locs' → W p l e R s m args below meth c H' locs' (r.2.1.length - n0) (slt r.2.1 - s0) Q (F0 m (pc + 3) lsA' ((r.1 ++ rest).map (evv b base)))) : W p l e R s m args below meth c H locs (sh.length - n0) (slt sh - s0) Q (F0 m pc lsA (st.map (evv b base))) := by
  refine va_callG hrun (fun q h => h) hS.2.2.1 (fun st v t hq => hq.2.2.2.1) (fun st t v locs1 hq hS1 => ?_)
  obtain ⟨hv, hl, hok, -, hP, hF, hK', hX', hsz'⟩ := hq
  have e1 : sh.length - n0 + (r.2.1.length - sh.length) = r.2.1.length - n0 := by omega
  have e2 : slt sh - s0 + (slt r.2.1 - slt sh) = slt r.2.1 - s0 := by omega
  have k := kk lsA t.heap locs1 ⟨hP, hF, hS1, hS.lhO, hS.lsO, fun v hv => (List.mem_append.mp hv).elim (hok v) (hrest v)⟩
  have e3 : v.toList ++ rest.map (evv b base) = (r.1 ++ rest).map (evv b base) := by
    injection hv with hv
    rw [hv, List.map_append]
    congr 1
    match r.1, hl with
    | [], _ => rfl
    | [_], _ => rfl
    | _ :: _ :: _, h => exact absurd h (by simp)
  rw [e1, e2, e3]
  exact k
theorem frB {av : List Value} : FrameBlind (va_Pc av (fun U => Wdd b base L xs D cs sh g U)) := fun a U fr mk q => ⟨q.1, q.2.1, q.2.2.1, KF_same (u := U) (U := U.calling fr mk a) rfl q.2.2.2.1, q.2.2.2.2.1.moved (u := U) (U := U.calling fr mk a) (Vm.Alike.refl _), q.2.2.2.2.2⟩
theorem good_in {big ws : List Cond} (hb : ∀ w ∈ wsA, w ∈ big) (h : ∀ w ∈ ws, w ∈ wsA) : GoodIn big ws := fun w hw => ⟨hb w (h w hw), good_A (h w hw)⟩
theorem st_split {y : Nat} {as : List AVal} (h : (st.take y).reverse = as) : st = as.reverse ++ st.drop y := by
  rw [← h, List.reverse_reverse, List.take_append_drop]
theorem okS_drop {y : Nat} (h : ∀ v ∈ st, okV v) : ∀ v ∈ st.drop y, okV v := fun v hv => h v (List.mem_of_mem_drop hv)
theorem okS_take {y : Nat} (h : ∀ v ∈ st, okV v) : ∀ v ∈ (st.take y).reverse, okV v := fun v hv => h v (List.mem_of_mem_take (List.mem_reverse.mp hv))
theorem len_take {y : Nat} (h : y ≤ st.length) : (st.take y).reverse.length = y := by rw [List.length_reverse, List.length_take]; omega
theorem cOk_of {h : Nat} (hc : cOk j x y h = true) : ((mtd x).2.2.2.2.1 + 1 ≤ (mtd j).2.2.2.2.1 ∧ 8 + ((mtd x).2.1 + 11) + (mtd x).2.2.2.2.2.1 ≤ (mtd j).2.2.2.2.2.1) ∧ (mtd x).2.2.2.2.2.2 = h ∧ ((ynm x).cls ≠ "java/lang/invoke/MethodHandle" ∧ (ynm x).cls ≠ "java/lang/invoke/VarHandle") ∧ (parseMethodDescriptor (ynm x).desc).map (fun d => d.parameters.length) = some (if h = 1 then y else y - 1) ∧ (h = 1 ∨ 1 ≤ y) ∧ x < nlaw ∧ (h = 0 → (mtd x).1 < 11 ∧ (vcl (mtd x).1).1 = (ynm x).cls) := by
  unfold cOk cRoom at hc
  simp only [Bool.and_eq_true, decide_eq_true_eq] at hc
  obtain ⟨⟨⟨⟨⟨⟨h1, h2⟩, h3⟩, h4⟩, h5⟩, h6⟩, h7⟩ := hc
  exact ⟨h1, h2, h3, h4, h5, h6, h7⟩
theorem wd_of {U : State} (hS : SFc b base L xs D cs s lsA ls st sh g H locs) (hC : Cxt b base L xs D cs j n0 Ts p R s m args meth c) (hsz : H.size = base + (sh.length - 2)) (hU : U.heap = H) (hW : s.WarmedH U.vm) : Wdd b base L xs D cs sh g U := by
  obtain ⟨hx, hb, hown, hts, hwa, hK, hX, hbb, ⟨h2n, hsz0⟩, hini, hfr, hlo⟩ := hC
  refine ⟨by rw [hU]; exact hS.1, hS.2.1, KF_warm hW hK, ?_, by rw [hU]; exact hsz⟩
  rw [hU]
  exact (hX.moved hW.alike).kept (hS.2.2.1.2.1 b (by omega) (by omega))
theorem call_V (IH : GoodAt n) (hrok : ∀ j, j < nmeth → ∀ r ∈ codL j, rok j r) (hC : Cxt b base L xs D cs j n0 Ts p R s m args meth c) (hml : c.maxLocals = ls.length) (hdg : decode (bcm j) pc = .ok (.invokevirtual i, 3)) (hc : cOk j x y 0 = true)
    (hw : ∀ w ∈ [Cond.methodLink (ynm j).cls i (ynm x), .instanceMethod (ynm x), .selects (ynm x).cls (ynm x) (ynm x), .initialized (ynm x).cls, .code (ynm x) (bcm x) (mtd x).2.1 (rtm x)], w ∈ wsA)
    (hy : y ≤ st.length) (hwg : awg (st.drop y) ≤ 8) (hrc : a_rcv (mtd x) sh (st.take y).reverse = true) (hlen : (aent (st.take y).reverse).length ≤ (mtd x).2.1) (hex : ex n x 0 (apad (aent (st.take y).reverse) (mtd x).2.1) [] sh g = some r)
    (hS : SFc b base L xs D cs s lsA ls st sh g H locs) (hn : n0 ≤ sh.length) (hs0 : s0 ≤ slt sh) (hR1 : r.2.1.length - n0 ≤ R.cells) (hR2 : slt r.2.1 - s0 ≤ R.slots)
    (kk : ∀ lsA' H' locs', SFc b base L xs D cs s lsA' ls (r.1 ++ st.drop y) r.2.1 r.2.2 H' locs' → W p l e R s m args below meth c H' locs' (r.2.1.length - n0) (slt r.2.1 - s0) Q (F0 m (pc + 3) lsA' ((r.1 ++ st.drop y).map (evv b base)))) : W p l e R s m args below meth c H locs (sh.length - n0) (slt sh - s0) Q (F0 m pc lsA (st.map (evv b base))) := by
  have hC0 := hC
  obtain ⟨hx, hb, hown, hts, hwa, hK, hX, hbb, ⟨h2n, hsz⟩, hini, hfr, hlo⟩ := hC
  obtain ⟨c1, c2, c3, c4, c5, c6, c7⟩ := cOk_of hc
  have hfx := ex_fx n _ _ _ _ _ _ _ hex
  refine w_size (fun hu => ?_)
  have hszH := sz_of hS.1 hS.2.2.1 hsz hn h2n hu
  unfold a_rcv at hrc
  rw [c2] at hrc
  have hM := met_of IH hrok (l := l) (b := b) (base := base) (L := L) (xs := xs) (D := D) (cs := cs) c6 hex hlen (okS_take hS.stO) hbb
  have hall : ∀ w ∈ wsV (ynm j).cls i (ynm x).cls (ynm x) (wsm x), w ∈ wsA := by
    intro w h
    unfold wsV wsm at h
    simp only [List.cons_append, List.nil_append, List.mem_cons] at h
    rcases h with h | h | h | h | h | h
    · exact hw w (by simp [h])
    · exact hw w (by simp [h])
    · exact hw w (by simp [h])
    · exact hw w (by simp [h])
    · exact hw w (by simp [h])
    · exact h
  generalize has : (st.take y).reverse = as at hrc hM
  have hl0 : as.length = y := by rw [← has]; exact len_take hy
  split at hrc
  · rename_i h0; cases h0
  · rename_i h0; cases h0
  · rename_i t as' h0
    rw [decide_eq_true_eq] at hrc
    obtain ⟨q, hq, hq1, h2⟩ := kin_of hrc (by have := (c7 rfl).1; omega)
    have he := ws_at (b := b) (base := base) (cs := cs) (g := g) hq h2
    have hlt := (c7 rfl).1
    rw [celE_o (by omega), hq1] at he
    have hcell := va_recv hK.1 hS.1 (vcl_at hlt) he
    dsimp only at hcell
    rw [(c7 rfl).2] at hcell
    have hst := st_split has
    have hav : (Value.ref (adr b base t) :: as'.map (evv b base)) = (vR t :: as').map (evv b base) := by rw [List.map_cons, evv_r (by omega)]
    refine snd_call (aa := (Value.ref (adr b base t) :: as'.map (evv b base)).toArray) hS hn hs0 hfx ?_ (okS_drop hS.stO) kk
    refine va_runV (C := (ynm x).cls) (cc := bcm j) (nL := ls.length) ⟨hx, hb, hml, hown, hts⟩ hM (cwV (y - 1) hts (good_in hwa hall) rfl rfl rfl ⟨rfl, c3.1, c3.2, c4⟩ ⟨Nat.le_trans c1.1 hfr, Nat.le_trans c1.2 hlo⟩) ⟨frB, hcell, fun U hU hW => ⟨by rw [hav], wd_of hS hC0 hszH hU hW⟩⟩ rfl (by rw [List.length_map]; simp only [List.length_cons] at hl0; omega) hS.lsz ?_ (lv_room (by rw [cat_wg]; exact hwg)) hdg ⟨by omega, by omega⟩
    show st.map (evv b base) = _
    conv => lhs; rw [hst]
    rw [List.map_append, List.reverse_cons, List.map_append, List.map_reverse, List.append_assoc, List.map_cons, evv_r (by omega)]
    rfl
  · cases hrc
theorem call_S (IH : GoodAt n) (hrok : ∀ j, j < nmeth → ∀ r ∈ codL j, rok j r) (hC : Cxt b base L xs D cs j n0 Ts p R s m args meth c) (hml : c.maxLocals = ls.length) (hdg : decode (bcm j) pc = .ok (.invokestatic i, 3)) (hc : cOk j x y 1 = true) (hzn : z = 0 ∨ Cond.methodLinkNest (ynm j).cls i (ynm x) RX11 ∈ nestW)
    (hw : ∀ w ∈ (if z = 0 then [Cond.methodLink (ynm j).cls i (ynm x)] else []) ++ [Cond.static (ynm x), .initialized (ynm x).cls, .code (ynm x) (bcm x) (mtd x).2.1 (rtm x)], w ∈ wsA)
    (hy : y ≤ st.length) (hwg : awg (st.drop y) ≤ 8) (hlen : (aent (st.take y).reverse).length ≤ (mtd x).2.1) (hex : ex n x 0 (apad (aent (st.take y).reverse) (mtd x).2.1) [] sh g = some r)
    (hS : SFc b base L xs D cs s lsA ls st sh g H locs) (hn : n0 ≤ sh.length) (hs0 : s0 ≤ slt sh) (hR1 : r.2.1.length - n0 ≤ R.cells) (hR2 : slt r.2.1 - s0 ≤ R.slots)
    (kk : ∀ lsA' H' locs', SFc b base L xs D cs s lsA' ls (r.1 ++ st.drop y) r.2.1 r.2.2 H' locs' → W p l e R s m args below meth c H' locs' (r.2.1.length - n0) (slt r.2.1 - s0) Q (F0 m (pc + 3) lsA' ((r.1 ++ st.drop y).map (evv b base)))) : W p l e R s m args below meth c H locs (sh.length - n0) (slt sh - s0) Q (F0 m pc lsA (st.map (evv b base))) := by
  have hC0 := hC
  obtain ⟨hx, hb, hown, hts, hwa, hK, hX, hbb, ⟨h2n, hsz⟩, hini, hfr, hlo⟩ := hC
  obtain ⟨c1, c2, c3, c4, c5, c6, c7⟩ := cOk_of hc
  have hfx := ex_fx n _ _ _ _ _ _ _ hex
  refine w_size (fun hu => ?_)
  have hszH := sz_of hS.1 hS.2.2.1 hsz hn h2n hu
  have hM := met_of IH hrok (l := l) (b := b) (base := base) (L := L) (xs := xs) (D := D) (cs := cs) c6 hex hlen (okS_take hS.stO) hbb
  have hst := st_split (rfl : (st.take y).reverse = (st.take y).reverse)
  have hstk : st.map (evv b base) = ((st.take y).reverse.map (evv b base)).reverse ++ (st.drop y).map (evv b base) := by
    conv => lhs; rw [hst]
    rw [List.map_append, List.map_reverse]
  have w1 : Cond.static (ynm x) ∈ wsA := hw _ (by simp)
  have w2 : Cond.initialized (ynm x).cls ∈ wsA := hw _ (by simp)
  have w3 : Cond.code (ynm x) (bcm x) (mtd x).2.1 (rtm x) ∈ wsA := hw _ (by simp)
  have hgw : GoodIn Ts (wsm x) := good_in hwa (fun w h => (List.mem_cons.mp h).elim (fun e => e ▸ w3) id)
  have hpre : PreS s H (va_Pc ((st.take y).reverse.map (evv b base)) (fun U => Wdd b base L xs D cs sh g U)) ((st.take y).reverse.map (evv b base)) := ⟨frB, fun U hU hW => ⟨rfl, wd_of hS hC0 hszH hU hW⟩⟩
  refine snd_call (aa := ((st.take y).reverse.map (evv b base)).toArray) hS hn hs0 hfx ?_ (okS_drop hS.stO) kk
  by_cases hz : z = 0
  · have w4 : Cond.methodLink (ynm j).cls i (ynm x) ∈ wsA := hw _ (by simp [hz])
    exact va_runS (cc := bcm j) (nL := ls.length) (own := (ynm j).cls) ⟨hx, hb, hml, hown, hts⟩ hM ⟨callB_of y hts hgw rfl rfl rfl (hts _ (hwa _ w2)) (hts _ (hwa _ w4)) ⟨c3.1, c3.2, c4⟩ ⟨Nat.le_trans c1.1 hfr, Nat.le_trans c1.2 hlo⟩, hts _ (hwa _ w1)⟩ hpre rfl (by rw [List.length_map]; exact len_take hy) hS.lsz hstk (lv_room (by rw [cat_wg]; exact hwg)) hdg ⟨by omega, by omega⟩
  · have w4 := hzn.resolve_left hz
    exact va_runSN (cc := bcm j) (nL := ls.length) (own := (ynm j).cls) ⟨hx, hb, hml, hown, hts⟩ hM ⟨va_cnB y hts hgw rfl rfl rfl (hK.2.2.2 _ w4) (hts _ (hwa _ w2)) ⟨c3.1, c3.2, c4⟩ ⟨Nat.le_trans c1.1 hfr, Nat.le_trans c1.2 hlo⟩, hts _ (hwa _ w1), True.intro⟩ hpre rfl (by rw [List.length_map]; exact len_take hy) hS.lsz hstk (lv_room (by rw [cat_wg]; exact hwg)) hdg ⟨by omega, by omega⟩
theorem call_I (IH : GoodAt n) (hrok : ∀ j, j < nmeth → ∀ r ∈ codL j, rok j r) (hC : Cxt b base L xs D cs j n0 Ts p R s m args meth c) (hml : c.maxLocals = ls.length) (hdg : decode (bcm j) pc = .ok (.invokespecial i, 3)) (hc : cOk j x y 2 = true) (hin1 : (ynm x).name = "<init>") (hrt : rtm x = none) (hzn : z = 0 ∨ Cond.methodLinkNest (ynm j).cls i (ynm x) RX11 ∈ nestW)
    (hw : ∀ w ∈ (if z = 0 then [Cond.methodLink (ynm j).cls i (ynm x)] else []) ++ [Cond.instanceMethod (ynm x), .initialized (ynm x).cls, .code (ynm x) (bcm x) (mtd x).2.1 (rtm x)], w ∈ wsA)
    (hy : y ≤ st.length) (hwg : awg (st.drop y) ≤ 8) (hrc : a_rcv (mtd x) sh (st.take y).reverse = true) (hlen : (aent (st.take y).reverse).length ≤ (mtd x).2.1) (hex : ex n x 0 (apad (aent (st.take y).reverse) (mtd x).2.1) [] sh g = some r)
    (hS : SFc b base L xs D cs s lsA ls st sh g H locs) (hn : n0 ≤ sh.length) (hs0 : s0 ≤ slt sh) (hR1 : r.2.1.length - n0 ≤ R.cells) (hR2 : slt r.2.1 - s0 ≤ R.slots)
    (kk : ∀ lsA' H' locs', SFc b base L xs D cs s lsA' ls (r.1 ++ st.drop y) r.2.1 r.2.2 H' locs' → W p l e R s m args below meth c H' locs' (r.2.1.length - n0) (slt r.2.1 - s0) Q (F0 m (pc + 3) lsA' ((r.1 ++ st.drop y).map (evv b base)))) : W p l e R s m args below meth c H locs (sh.length - n0) (slt sh - s0) Q (F0 m pc lsA (st.map (evv b base))) := by
  have hC0 := hC
  obtain ⟨hx, hb, hown, hts, hwa, hK, hX, hbb, ⟨h2n, hsz⟩, hini, hfr, hlo⟩ := hC
  obtain ⟨c1, c2, c3, c4, c5, c6, c7⟩ := cOk_of hc
  have hfx := ex_fx n _ _ _ _ _ _ _ hex
  refine w_size (fun hu => ?_)
  have hszH := sz_of hS.1 hS.2.2.1 hsz hn h2n hu
  unfold a_rcv at hrc
  rw [c2] at hrc
  have hM := met_of IH hrok (l := l) (b := b) (base := base) (L := L) (xs := xs) (D := D) (cs := cs) c6 hex hlen (okS_take hS.stO) hbb
  have w1 : Cond.instanceMethod (ynm x) ∈ wsA := hw _ (by simp)
  have w2 : Cond.initialized (ynm x).cls ∈ wsA := hw _ (by simp)
  have w3 : Cond.code (ynm x) (bcm x) (mtd x).2.1 (rtm x) ∈ wsA := hw _ (by simp)
  have hgw : GoodIn Ts (wsm x) := good_in hwa (fun w h => (List.mem_cons.mp h).elim (fun e => e ▸ w3) id)
  have hwsm : wsm x = Cond.code (ynm x) (bcm x) (mtd x).2.1 none :: wsA := by unfold wsm; rw [hrt]
  generalize has : (st.take y).reverse = as at hrc hM
  have hl0 : as.length = y := by rw [← has]; exact len_take hy
  split at hrc
  · rename_i h0; cases h0
  · rename_i t as' h0
    rw [decide_eq_true_eq] at hrc
    have hst := st_split has
    have hav : (Value.ref (adr b base t) :: as'.map (evv b base)) = (vR t :: as').map (evv b base) := by rw [List.map_cons, evv_r (by omega)]
    have hpre : PreS s H (va_Pc ((vR t :: as').map (evv b base)) (fun U => Wdd b base L xs D cs sh g U)) (Value.ref (adr b base t) :: as'.map (evv b base)) := ⟨frB, fun U hU hW => ⟨by rw [hav], wd_of hS hC0 hszH hU hW⟩⟩
    have hstk : st.map (evv b base) = (as'.map (evv b base)).reverse ++ .ref (adr b base t) :: (st.drop y).map (evv b base) := by
      conv => lhs; rw [hst]
      rw [List.map_append, List.reverse_cons, List.map_append, List.map_reverse, List.append_assoc, List.map_cons, evv_r (by omega)]
      rfl
    refine snd_call (aa := (Value.ref (adr b base t) :: as'.map (evv b base)).toArray) hS hn hs0 hfx ?_ (okS_drop hS.stO) kk
    have hln : (as'.map (evv b base)).length = y - 1 := by rw [List.length_map]; simp only [List.length_cons] at hl0; omega
    by_cases hz : z = 0
    · have w4 : Cond.methodLink (ynm j).cls i (ynm x) ∈ wsA := hw _ (by simp [hz])
      exact va_runI (cc := bcm j) (nL := ls.length) (own := (ynm j).cls) ⟨hx, hb, hml, hown, hts⟩ hM ⟨callB_of (y - 1) hts hgw hwsm rfl rfl (hts _ (hwa _ w2)) (hts _ (hwa _ w4)) ⟨c3.1, c3.2, c4⟩ ⟨Nat.le_trans c1.1 hfr, Nat.le_trans c1.2 hlo⟩, hin1, hts _ (hwa _ w1)⟩ hpre rfl hln hS.lsz hstk (lv_room (by rw [cat_wg]; exact hwg)) hdg ⟨by omega, by omega⟩
    · have w4 := hzn.resolve_left hz
      exact va_runIN (cc := bcm j) (nL := ls.length) (own := (ynm j).cls) ⟨hx, hb, hml, hown, hts⟩ hM ⟨va_cnB (y - 1) hts hgw hwsm rfl rfl (hK.2.2.2 _ w4) (hts _ (hwa _ w2)) ⟨c3.1, c3.2, c4⟩ ⟨Nat.le_trans c1.1 hfr, Nat.le_trans c1.2 hlo⟩, hin1, hts _ (hwa _ w1)⟩ hpre rfl hln hS.lsz hstk (lv_room (by rw [cat_wg]; exact hwg)) hdg ⟨by omega, by omega⟩
  · rename_i h0; cases h0
  · cases hrc
end GOD
theorem end_1 {j pc len x y : Nat} {z : Int} {ins : Instr} {rk : Nat} {st rv : List AVal} (h : a_end ins rk st = some rv) (hb : nBool j pc ins len x y z = true) : len = 1 := by
  unfold a_end at h
  split at h
  · simpa [nBool] using hb
  · simpa [nBool] using hb
  · simpa [nBool] using hb
  · simpa [nBool] using hb
  · simpa [nBool] using hb
  · cases h
theorem good_all (hrok : ∀ j, j < nmeth → ∀ r ∈ codL j, rok j r) : ∀ n, GoodAt n := by
  intro n
  induction n with
  | zero =>
    intro j hj p l e R s m args below meth c Q b base L n0 s0 xs D cs Ts pc ls st sh g rv sh' g' lsA H locs h
    simp [ex] at h
  | succ n ih =>
    intro j hj p l e R s m args below meth c Q b base L n0 s0 xs D cs Ts pc ls st sh g rv sh' g' lsA H locs h hC hml hS hn hs0 hR1 hR2 hret
    rw [ex] at h
    split at h
    · cases h
    · rename_i ins len x y z hlk
      have hr := hrok j hj _ (look_mem _ _ _ hlk)
      split at h
      · rename_i hk0
        split at h
        · rename_i pc' ls' st' sh1 g1 hst
          have hfx := stp_fx hst
          have hex := ex_fx n _ _ _ _ _ _ _ h
          dsimp only at hex
          refine snd_stp hC hml hr hk0 hst hS hn hs0 (by omega) (by omega) (fun lsA' H' locs' hS' => ?_)
          exact ih j hj pc' ls' st' sh1 g1 rv sh' g' lsA' H' locs' h hC (hml.trans hfx.1.symm) hS' (by omega) (by omega) hR1 hR2 hret
        · cases h
      · rename_i hk1
        split at h
        · rename_i hcd
          obtain ⟨hy, hwg, hrc, hlen⟩ := hcd
          split at h
          · rename_i r hex
            have hfx := ex_fx n _ _ _ _ _ _ _ hex
            have hex2 := ex_fx n _ _ _ _ _ _ _ h
            dsimp only at hex2
            have kk : ∀ lsA' H' locs', SFc b base L xs D cs s lsA' ls (r.1 ++ st.drop y) r.2.1 r.2.2 H' locs' → W p l e R s m args below meth c H' locs' (r.2.1.length - n0) (slt r.2.1 - s0) Q (F0 m (pc + 3) lsA' ((r.1 ++ st.drop y).map (evv b base))) := fun lsA' H' locs' hS' => ih j hj (pc + 3) ls (r.1 ++ st.drop y) r.2.1 r.2.2 rv sh' g' lsA' H' locs' h hC hml hS' (by omega) (by omega) hR1 hR2 hret
            obtain ⟨hdg, hnb, hww⟩ := hr
            dsimp only at hdg hnb hww
            have q1 : r.2.1.length - n0 ≤ R.cells := by omega
            have q2 : slt r.2.1 - s0 ≤ R.slots := by omega
            cases ins
            case invokevirtual i =>
              simp only [nBool, Bool.and_eq_true, decide_eq_true_eq] at hnb
              obtain ⟨rfl, hnb⟩ := hnb
              exact call_V ih hrok hC hml hdg hnb hww hy hwg hrc hlen hex hS hn hs0 q1 q2 kk
            case invokestatic i =>
              have hx : ¬ 1001 ≤ x := by
                intro q
                simp [akd, q] at hk1
              simp only [nBool, Bool.and_eq_true, decide_eq_true_eq, hx, if_false] at hnb
              obtain ⟨rfl, hnb⟩ := hnb
              have h1 : ¬ x = 1001 := by omega
              have h2 : ¬ x = 1002 := by omega
              simp only [nWords, h1, h2, hx, if_false] at hww
              exact call_S ih hrok hC hml hdg hnb.1 hnb.2 hww hy hwg hlen hex hS hn hs0 q1 q2 kk
            case invokespecial i =>
              have hx : ¬ x = 1000 := by
                intro q
                simp [akd, q] at hk1
              simp only [nBool, Bool.and_eq_true, decide_eq_true_eq, hx, if_false] at hnb
              obtain ⟨rfl, ⟨hnb, hin, hrt⟩, hzn⟩ := hnb
              simp only [nWords, hx, if_false] at hww
              exact call_I ih hrok hC hml hdg hnb hin hrt hzn hww hy hwg hrc hlen hex hS hn hs0 q1 q2 kk
            all_goals exact absurd hk1 (by simp [akd])
          · cases h
        · cases h
      · split at h
        · rename_i v hv
          cases h
          obtain ⟨hdg, hnb, hww⟩ := hr
          dsimp only at hdg hnb hww
          have h1 := end_1 hv hnb
          subst h1
          exact hret pc ins lsA ls st H locs hdg hv hS
        · cases h
