theorem z_eq {x : Int} (h : iw x = x) : Int32.ofInt x = 0 ↔ x = 0 := by rw [ofI_0, ofI_inj h iw_0]
theorem z_lt {x : Int} (h : iw x = x) : Int32.ofInt x < 0 ↔ x < 0 := by rw [ofI_0, ofI_lt h iw_0]
theorem z_ge {x : Int} (h : iw x = x) : 0 ≤ Int32.ofInt x ↔ 0 ≤ x := by rw [ofI_0, ofI_le iw_0 h]
theorem z_gt {x : Int} (h : iw x = x) : 0 < Int32.ofInt x ↔ 0 < x := by rw [ofI_0, ofI_lt iw_0 h]
theorem z_le {x : Int} (h : iw x = x) : Int32.ofInt x ≤ 0 ↔ x ≤ 0 := by rw [ofI_0, ofI_le h iw_0]
section SNC
variable {p : Program} {l : Launch} {e : Env} {R : Room} {s : State} {m : MethodId} {args : Array Value} {below : List Frame} {meth : Method} {c : Code} {Q : State → Prop}
variable {b base L j n0 s0 : Nat} {xs : Nat → Int32} {D : va_G} {cs : Nat → ClassId} {Ts : List Cond} {pc pc' pc1 x y i : Nat} {z : Int} {ls ls' st st' : List AVal} {sh sh' : List AShp} {g g' : AMem} {lsA : Array Slot} {H : Heap} {locs : List Loc}
theorem fn_cpy {s d sp dp n : Int} (h1 : 0 ≤ sp) (h2 : 0 ≤ dp) (h3 : 0 ≤ n) : (fun (j : Nat) => Int32.ofInt (cpy g s sp d dp n d j)) = va_cpy (fun (j : Nat) => Int32.ofInt (g s j)) (fun (j : Nat) => Int32.ofInt (g d j)) sp.toNat dp.toNat n.toNat := by
  funext j
  unfold cpy va_cpy
  by_cases e : dp.toNat ≤ j ∧ j < dp.toNat + n.toNat
  · rw [if_pos ⟨rfl, by omega, by omega⟩, if_pos e]
    congr 2
    omega
  · rw [if_neg (by omega), if_neg e]
theorem sr_acpy (hC : Cxt b base L xs D cs j n0 Ts p R s m args meth c) (hml : c.maxLocals = ls.length) (hdg : decode (bcm j) pc = .ok (.invokestatic i, 3))
    (hw : Cond.methodLink (ynm j).cls i arraycopyName ∈ wsA ∧ Cond.native arraycopyName ∈ wsA ∧ Cond.static arraycopyName ∈ wsA ∧ Cond.initialized "java/lang/System" ∈ wsA) (hrm : 1 ≤ (mtd j).2.2.2.2.1 ∧ 60 ≤ (mtd j).2.2.2.2.2.1)
    (h : a_acpy (pc + 3) ls st sh g = some (pc1, ls', st', sh', g')) (hS : SFc b base L xs D cs s lsA ls st sh g H locs)
    (kk : ∀ lsA' H' locs', SFc b base L xs D cs s lsA' ls' st' sh' g' H' locs' → W p l e R s m args below meth c H' locs' (sh'.length - n0) (slt sh' - s0) Q (F0 m pc1 lsA' (st'.map (evv b base)))) : W p l e R s m args below meth c H locs (sh.length - n0) (slt sh - s0) Q (F0 m pc lsA (st.map (evv b base))) := by
  obtain ⟨hx, hb, hown, hts, hwa, ⟨hK, hAO1, hAO2, hNw⟩, hX, hbb, ⟨h2n, hsz⟩, hini, hfr, hlo⟩ := hC
  unfold a_acpy at h
  split at h
  · rename_i n dp d sp a r
    split at h
    · rename_i hin
      obtain ⟨hsp, hdp, hn, hl0, hl1, hk0, hk1, hr0⟩ := hin
      have hr : r = [] := List.eq_nil_of_length_eq_zero hr0
      subst hr
      have on := hS.stO
      have hni : iw n = n := okS_head on
      have hdpi : iw dp = dp := okS_head (okS_tail on)
      have hspi : iw sp = sp := okS_head (okS_tail (okS_tail (okS_tail on)))
      have hF := hS.2.1
      obtain ⟨qa, hqa, hqa1, h2a⟩ := kin_of hk0 (by omega)
      obtain ⟨qd, hqd, hqd1, h2d⟩ := kin_of hk1 (by omega)
      have ea : aln sh a = qa.2.1 := by unfold aln; rw [hqa]; exact if_pos (Or.inl hqa1)
      have ed : aln sh d = qd.2.1 := by unfold aln; rw [hqd]; exact if_pos (Or.inl hqd1)
      have ha := ws_at (b := b) (base := base) (cs := cs) (g := g) hqa h2a
      have hd := ws_at (b := b) (base := base) (cs := cs) (g := g) hqd h2d
      rw [celE_i hqa1] at ha
      rw [celE_i hqd1] at hd
      cases h
      rw [List.map_cons, List.map_cons, List.map_cons, List.map_cons, List.map_cons, evv_r (by omega), evv_r (by omega)]
      refine va_copyi (ty := .int) hx hb (by rw [hml]; exact hS.lsz.symm) hown (hts _ (hwa _ hw.1)) (hts _ (hwa _ hw.2.1)) (hts _ (hwa _ hw.2.2.1)) (hts _ (hwa _ hw.2.2.2)) hK hS.1 ws_D hS.2.2.1 (a.toNat - 2) (d.toNat - 2) 0 0 ha hd rfl rfl rfl (by rw [z_lt hspi]; omega) (by rw [z_lt hdpi]; omega) (by rw [z_lt hni]; omega) (by rw [ofI_nat hspi, ofI_nat hni]; omega) (by rw [ofI_nat hdpi, ofI_nat hni]; omega) (fun _ _ => rfl) (Nat.le_trans hrm.1 hfr) (Nat.le_trans (show 0 + (nativeFrameWords "java/lang/System" "arraycopy" 5 + 11) ≤ 60 by decide +kernel) (Nat.le_trans hrm.2 hlo)) hdg (fun H1 locs1 hP1 _ hS1 => ?_)
      obtain ⟨a1, a2, a3, a4, a5, a6⟩ := hF
      refine kk lsA H1 locs1 ⟨?_, ⟨a1, a2, a3, a4, fun a' q => ?_, fun q hq => ?_⟩, hS1, hS.lhO, hS.lsO, fun w hw => by cases hw⟩
      · rw [ws_mem (g := g) (g' := cpy g a sp d dp n) hqd h2d (fun a' q h => if_neg (fun e => h e.1)), celE_i hqd1, fn_cpy hsp hdp hn]
        rw [ofI_nat hspi, ofI_nat hdpi, ofI_nat hni] at hP1
        exact hP1
      · unfold cpy
        by_cases e : a' = d ∧ dp ≤ q ∧ q < dp + n
        · rw [if_pos e]
          have hp1 : plk sh a' q = 0 := by rw [e.1, plk_at hqd, if_pos (Or.inl hqd1)]
          have hp2 : plk sh a (sp + (q - dp)) = 0 := by rw [plk_at hqa, if_pos (Or.inl hqa1)]
          exact ⟨fun _ => (a5 _ _).1 hp2, fun z => by omega⟩
        · rw [if_neg e]
          exact a5 a' q
      · rw [show cpy g a sp d dp n 1 q = g 1 q from if_neg (by omega)]
        exact a6 q hq
    · cases h
  · cases h
theorem sr_mm {mx : Bool} (hC : Cxt b base L xs D cs j n0 Ts p R s m args meth c) (hml : c.maxLocals = ls.length) (hdg : decode (bcm j) pc = .ok (.invokestatic i, 3))
    (hw : if mx = true then (Cond.methodLink (ynm j).cls i Lib.Math.max.name ∈ wsA ∧ Cond.static Lib.Math.max.name ∈ wsA ∧ Cond.initialized "java/lang/Math" ∈ wsA ∧ Cond.code Lib.Math.max.name Lib.Math.max.code 2 (some .int) ∈ wsA) else (Cond.methodLink (ynm j).cls i Lib.Math.min.name ∈ wsA ∧ Cond.static Lib.Math.min.name ∈ wsA ∧ Cond.initialized "java/lang/Math" ∈ wsA ∧ Cond.code Lib.Math.min.name Lib.Math.min.code 2 (some .int) ∈ wsA)) (hrm : 1 ≤ (mtd j).2.2.2.2.1 ∧ 60 ≤ (mtd j).2.2.2.2.2.1)
    (h : a_mm mx (pc + 3) ls st sh g = some (pc1, ls', st', sh', g')) (hS : SFc b base L xs D cs s lsA ls st sh g H locs) (hR1 : sh'.length - n0 ≤ R.cells) (hR2 : slt sh' - s0 ≤ R.slots)
    (kk : ∀ lsA' H' locs', SFc b base L xs D cs s lsA' ls' st' sh' g' H' locs' → W p l e R s m args below meth c H' locs' (sh'.length - n0) (slt sh' - s0) Q (F0 m pc1 lsA' (st'.map (evv b base)))) : W p l e R s m args below meth c H locs (sh.length - n0) (slt sh - s0) Q (F0 m pc lsA (st.map (evv b base))) := by
  obtain ⟨hx, hb, hown, hts, hwa, ⟨hK, hAO1, hAO2, hNw⟩, hX, hbb, ⟨h2n, hsz⟩, hini, hfr, hlo⟩ := hC
  unfold a_mm at h
  split at h
  · rename_i y x r
    split at h
    · rename_i hr0
      have hr : r = [] := List.eq_nil_of_length_eq_zero hr0
      subst hr
      cases h
      have hy : iw y = y := okS_head hS.stO
      have hxx : iw x = x := okS_head (okS_tail hS.stO)
      have h13 : (([] : List Value).map fun v => v.category).sum + 13 ≤ R.locals := Nat.le_trans (show 0 + 13 ≤ 60 by decide) (Nat.le_trans hrm.2 hlo)
      cases mx with
      | true =>
        rw [if_pos rfl] at hw
        refine va_mmax hx hb (by rw [hml]; exact hS.lsz.symm) hown (hts _ (hwa _ hw.1)) (hts _ (hwa _ hw.2.1)) (hts _ (hwa _ hw.2.2.1)) (hts _ (hwa _ hw.2.2.2)) (Nat.le_trans hrm.1 hfr) h13 hR1 hR2 hdg ?_
        have k := kk lsA H locs (hS.stk (okS_cons (v := vI (if x < y then y else x)) (show iw _ = _ by split; exact hy; exact hxx) (fun w hw => by cases hw)))
        have e : (if Int32.ofInt x < Int32.ofInt y then Int32.ofInt y else Int32.ofInt x) = Int32.ofInt (if x < y then y else x) := by
          by_cases q : x < y
          · rw [if_pos ((ofI_lt hxx hy).mpr q), if_pos q]
          · rw [if_neg (fun z => q ((ofI_lt hxx hy).mp z)), if_neg q]
        rw [e]
        exact k
      | false =>
        rw [if_neg (by decide)] at hw
        refine va_mmin hx hb (by rw [hml]; exact hS.lsz.symm) hown (hts _ (hwa _ hw.1)) (hts _ (hwa _ hw.2.1)) (hts _ (hwa _ hw.2.2.1)) (hts _ (hwa _ hw.2.2.2)) (Nat.le_trans hrm.1 hfr) h13 hR1 hR2 hdg ?_
        have k := kk lsA H locs (hS.stk (okS_cons (v := vI (if y < x then y else x)) (show iw _ = _ by split; exact hy; exact hxx) (fun w hw => by cases hw)))
        have e : (if Int32.ofInt y < Int32.ofInt x then Int32.ofInt y else Int32.ofInt x) = Int32.ofInt (if y < x then y else x) := by
          by_cases q : y < x
          · rw [if_pos ((ofI_lt hy hxx).mpr q), if_pos q]
          · rw [if_neg (fun z => q ((ofI_lt hy hxx).mp z)), if_neg q]
        rw [e]
        exact k
    · cases h
  · cases h
theorem stp_fx {ins : Instr} (h : stp ins x y z pc ls st sh g = some (pc1, ls', st', sh', g')) : ls'.length = ls.length ∧ sh.length ≤ sh'.length ∧ slt sh ≤ slt sh' := by
  have hset : ∀ (t : Nat) (v : List Int), slt sh ≤ slt (sh.set t ((sh[t]?.getD (0, 0, [])).1, (sh[t]?.getD (0, 0, [])).2.1, v)) := by
    intro t v
    cases ht : sh[t]? with
    | none => rw [List.set_eq_of_length_le (by simpa using ht)]; exact Nat.le_refl _
    | some r => exact Nat.le_of_eq (slt_set ht (r.1, r.2.1, v) rfl).symm
  unfold stp at h
  split at h
  all_goals (try unfold a_ldI at h)
  all_goals (try unfold a_ldL at h)
  all_goals (try unfold a_ldR at h)
  all_goals (try unfold a_stI at h)
  all_goals (try unfold a_stL at h)
  all_goals (try unfold a_stR at h)
  all_goals (try unfold a_inc at h)
  all_goals (try unfold a_bi at h)
  all_goals (try unfold a_bl at h)
  all_goals (try unfold a_lcmp at h)
  all_goals (try unfold a_i2l at h)
  all_goals (try unfold a_l2i at h)
  all_goals (try unfold a_dup at h)
  all_goals (try unfold a_dup2 at h)
  all_goals (try unfold a_pop at h)
  all_goals (try unfold a_if at h)
  all_goals (try unfold a_ic at h)
  all_goals (try unfold a_tsw at h)
  all_goals (try unfold a_lsw at h)
  all_goals (try unfold a_getf at h)
  all_goals (try unfold a_putf at h)
  all_goals (try unfold a_new at h)
  all_goals (try unfold a_newa at h)
  all_goals (try unfold a_newq at h)
  all_goals (try unfold a_iald at h)
  all_goals (try unfold a_iast at h)
  all_goals (try unfold a_bald at h)
  all_goals (try unfold a_bast at h)
  all_goals (try unfold a_aald at h)
  all_goals (try unfold a_aast at h)
  all_goals (try unfold a_alen at h)
  all_goals (try unfold a_obj at h)
  all_goals (repeat' split at h)
  all_goals (try unfold a_acpy at h)
  all_goals (try unfold a_mm at h)
  all_goals (repeat' split at h)
  all_goals first
    | (cases h; done)
    | (cases h; exact ⟨by simp, Nat.le_refl _, Nat.le_refl _⟩)
    | (cases h; exact ⟨by simp, by simp, hset _ _⟩)
    | (cases h; exact ⟨by simp, by simp, by rw [slt_psh]; omega⟩)
end SNC
