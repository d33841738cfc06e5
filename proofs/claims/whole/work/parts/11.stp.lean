section SNB
variable {p : Program} {l : Launch} {e : Env} {R : Room} {s : State} {m : MethodId} {args : Array Value} {below : List Frame} {meth : Method} {c : Code} {Q : State → Prop}
variable {b base L j n0 s0 : Nat} {xs : Nat → Int32} {D : va_G} {cs : Nat → ClassId} {Ts : List Cond} {pc pc' pc1 x y i : Nat} {z : Int} {ls ls' st st' : List AVal} {sh sh' : List AShp} {g g' : AMem} {lsA : Array Slot} {H : Heap} {locs : List Loc}
theorem slt_psh {r : AShp} : slt (sh ++ [r]) = slt sh + r.2.1 := by simp [slt]
theorem PF_psh {r : AShp} (h : PF L xs sh g) (hr : ∀ k : Int, plk (sh ++ [r]) sh.length k = plk (sh ++ [r]) sh.length k) : PF L xs (sh ++ [r]) (zr g sh.length) := by
  obtain ⟨a1, a2, a3, a4, a5, a6⟩ := h
  refine ⟨by rw [List.length_append]; omega, by rw [List.getElem?_append_left (by omega)]; exact a2, by rw [List.getElem?_append_left (by omega)]; exact a3, a4, fun a q => ?_, fun q hq => ?_⟩
  · unfold zr
    by_cases e : a = sh.length
    · rw [if_pos e]
      exact ⟨fun _ => iw_0, fun _ => lw_0⟩
    · rw [if_neg e]
      by_cases e2 : a.toNat < sh.length
      · have : plk (sh ++ [r]) a q = plk sh a q := by
          unfold plk
          rw [List.getElem?_append_left e2]
        rw [this]
        exact a5 a q
      · have : plk (sh ++ [r]) a q = 9 := by
          unfold plk
          rw [List.getElem?_eq_none (by rw [List.length_append, List.length_singleton]; omega)]
        rw [this]
        exact ⟨fun z => by omega, fun z => by omega⟩
  · rw [show zr g sh.length 1 q = g 1 q from if_neg (by omega)]
    exact a6 q hq
theorem zr_ne {a q t : Int} (h : a ≠ t) : zr g t a q = g a q := if_neg h
theorem adr_new (h : 2 ≤ sh.length) : adr b base (sh.length : Int) = base + (sh.length - 2) := by rw [adr_2 (by omega), Int.toNat_natCast]
theorem sr_new (hC : Cxt b base L xs D cs j n0 Ts p R s m args meth c) (hdg : decode (bcm j) pc = .ok (.new i, 3)) (hx11 : x < 11)
    (hw : Cond.classLink (ynm j).cls i (vcl x).1 ∈ wsA ∧ Cond.instantiable (vcl x).1 (vcl x).2.2 ∈ wsA ∧ Cond.initialized (vcl x).1 ∈ wsA)
    (h : a_new x (pc + 3) ls st sh g = some (pc1, ls', st', sh', g')) (hS : SFc b base L xs D cs s lsA ls st sh g H locs) (hn : n0 ≤ sh.length) (hs0 : s0 ≤ slt sh) (hR1 : sh'.length - n0 ≤ R.cells) (hR2 : slt sh' - s0 ≤ R.slots)
    (kk : ∀ lsA' H' locs', SFc b base L xs D cs s lsA' ls' st' sh' g' H' locs' → W p l e R s m args below meth c H' locs' (sh'.length - n0) (slt sh' - s0) Q (F0 m pc1 lsA' (st'.map (evv b base)))) : W p l e R s m args below meth c H locs (sh.length - n0) (slt sh - s0) Q (F0 m pc lsA (st.map (evv b base))) := by
  obtain ⟨hx, hb, hown, hts, hwa, ⟨hK, hAO1, hAO2, hNw⟩, hX, hbb, ⟨h2n, hsz⟩, hini, hfr, hlo⟩ := hC
  unfold a_new at h
  cases h
  have hv := vcl_at hx11
  obtain ⟨hN, -, hnm, hdec, ty, hty, hdf⟩ := clsOK _ _ _ _ hv
  have hF := hS.2.1
  have e1 : (sh ++ [(x, (jfld x).length, List.replicate (jfld x).length 0)]).length - n0 = sh.length - n0 + 1 := by rw [List.length_append, List.length_singleton]; omega
  have e2 : slt (sh ++ [(x, (jfld x).length, List.replicate (jfld x).length 0)]) - s0 = slt sh - s0 + (jfld x).length := by rw [slt_psh]; dsimp only; omega
  rw [e1] at hR1
  rw [e2] at hR2
  refine va_new (fs := fldE b base (x, (jfld x).length, List.replicate (jfld x).length 0) sh.length (zr g sh.length)) hx hb hts (fun w h => hwa w (cls_wA _ _ _ _ hv w h)) ty hty hown (hts _ (hwa _ hw.1)) (hts _ (hwa _ hw.2.1)) (hts _ (hwa _ hw.2.2)) hK hS.1 ws_D hS.2.2.1 (fun q h => by omega) hv ?_ hR1 (by rw [hN]; exact hR2) hdg (fun q H1 hP1 hD1 hS1 => ?_)
  · intro k hk
    rw [hdf k hk]
    have hlt : k < (jfld x).length := by omega
    have hq : (jfld x)[k]? = some (jfld x)[k] := List.getElem?_eq_getElem hlt
    have hfl : vp_V (fldE b base (x, (jfld x).length, List.replicate (jfld x).length 0) sh.length (zr g sh.length)) k = evv b base (fvl (jfld x)[k] (zr g sh.length sh.length k) ((List.replicate (jfld x).length (0 : Int)).getD k 0)) := by
      unfold vp_V
      rw [List.getD_eq_getElem?_getD, fld_at (s := (x, (jfld x).length, List.replicate (jfld x).length 0)) hq, Option.getD_some]
    rw [hfl, List.getD_eq_getElem?_getD, hq, Option.getD_some]
    have z1 : zr g sh.length sh.length k = 0 := if_pos rfl
    have z2 : (List.replicate (jfld x).length (0 : Int)).getD k 0 = 0 := by
      rw [List.getD_eq_getElem?_getD, List.getElem?_replicate, if_pos hlt]
      rfl
    rw [z1, z2, evv_0 b base]
  · refine w_size (fun hu => ?_)
    have hq := q_of hP1 hD1 hsz hn h2n hu
    have k3 := kk lsA H1 locs ⟨?_, PF_psh hF (fun _ => rfl), hS1, hS.lhO, hS.lsO, okS_cons True.intro hS.stO⟩
    · rw [e1, e2, List.map_cons, evv_r (by have := hF.1; omega), adr_new hF.1, ← hq] at k3
      rw [hN]
      exact k3
    · rw [ws_psh hF.1 (fun a q ha => zr_ne ha), celE_o (s := (x, (jfld x).length, List.replicate (jfld x).length 0)) hx11, ← hq]
      exact hP1
theorem cs_of {t : Nat} {ty : FieldType} {cA : ClassId} (hK : va_K D vwCl (TYs cs ++ [(cA, ty)]) s) (ht : (TYs cs)[t]? = some (cs t, ty)) : cA = cs t := by
  have h1 := (hK.2 4 (cA, ty) rfl).2
  have h2 := (hK.2 t (cs t, ty) (by rw [List.getElem?_append_left (List.getElem?_eq_some_iff.mp ht).1]; exact ht)).2
  dsimp only at h1 h2
  cases ty with
  | object C =>
    obtain ⟨_, _, -, -, -, h3⟩ := h1
    obtain ⟨_, _, -, -, -, h4⟩ := h2
    exact Option.some.inj (h3.symm.trans h4)
  | _ => exact Option.some.inj (Eq.trans (Eq.symm h1) h2)
theorem vK_sub {cA : ClassId} {ty : FieldType} (hK : va_K D vwCl (TYs cs ++ [(cA, ty)]) s) : va_K D vwCl (TYs cs) s := hK.sub [0, 1, 2, 3] rfl
theorem sr_newi (hC : Cxt b base L xs D cs j n0 Ts p R s m args meth c) (hdg : decode (bcm j) pc = .ok (.newarray .int, 2)) (hw : Cond.arrayClass (newarray.typeOf .int) ∈ wsA)
    (h : a_newa 20 (pc + 2) ls st sh g = some (pc1, ls', st', sh', g')) (hS : SFc b base L xs D cs s lsA ls st sh g H locs) (hn : n0 ≤ sh.length) (hs0 : s0 ≤ slt sh) (hR1 : sh'.length - n0 ≤ R.cells) (hR2 : slt sh' - s0 ≤ R.slots)
    (kk : ∀ lsA' H' locs', SFc b base L xs D cs s lsA' ls' st' sh' g' H' locs' → W p l e R s m args below meth c H' locs' (sh'.length - n0) (slt sh' - s0) Q (F0 m pc1 lsA' (st'.map (evv b base)))) : W p l e R s m args below meth c H locs (sh.length - n0) (slt sh - s0) Q (F0 m pc lsA (st.map (evv b base))) := by
  obtain ⟨hx, hb, hown, hts, hwa, ⟨hK, hAO1, hAO2, hNw⟩, hX, hbb, ⟨h2n, hsz⟩, hini, hfr, hlo⟩ := hC
  unfold a_newa at h
  split at h
  · rename_i n r
    split at h
    · rename_i hin
      cases h
      have hi : iw n = n := okS_head hS.stO
      have hF := hS.2.1
      have e1 : (sh ++ [(20, n.toNat, [])]).length - n0 = sh.length - n0 + 1 := by rw [List.length_append, List.length_singleton]; omega
      have e2 : slt (sh ++ [(20, n.toNat, [])]) - s0 = slt sh - s0 + n.toNat := by rw [slt_psh]; dsimp only; omega
      rw [e1] at hR1
      rw [e2] at hR2
      rw [List.map_cons]
      refine va_newa (atype := .int) (ty := .int) (N' := n.toNat) (a0 := (n.toNat, .inl (fun _ => 0))) hx hb (hts _ (hwa _ hw)) rfl hK hS.1 ws_D hS.2.2.1 (fun q h => by omega) (fun cA => rfl) (by rw [ofI_0, ofI_lt hi iw_0]; omega) (ofI_nat hi) (by show n.toNat * 4 ≤ _; omega) hR1 hR2 hdg (fun q cA H1 hK1 hP1 hD1 hS1 => ?_)
      refine w_size (fun hu => ?_)
      have hq := q_of hP1 hD1 hsz hn h2n hu
      have hcA : cA = cs 0 := cs_of hK1 rfl
      have k3 := kk lsA H1 locs ⟨?_, PF_psh hF (fun _ => rfl), hS1, hS.lhO, hS.lsO, okS_cons True.intro (okS_tail hS.stO)⟩
      · rw [e1, e2, List.map_cons, evv_r (by have := hF.1; omega), adr_new hF.1, ← hq] at k3
        exact k3
      · rw [ws_psh hF.1 (fun a q ha => zr_ne ha), celE_i (s := (20, n.toNat, [])) rfl, ← hq, ← hcA]
        have z1 : (fun (k : Nat) => Int32.ofInt (zr g sh.length sh.length k)) = (fun _ => (0 : Int32)) := by
          funext k
          rw [show zr g sh.length sh.length k = 0 from if_pos rfl, ← ofI_0]
        rw [z1]
        exact hP1
    · cases h
  · cases h
theorem sr_newz (hC : Cxt b base L xs D cs j n0 Ts p R s m args meth c) (hdg : decode (bcm j) pc = .ok (.newarray .boolean, 2)) (hw : Cond.arrayClass (newarray.typeOf .boolean) ∈ wsA)
    (h : a_newa 21 (pc + 2) ls st sh g = some (pc1, ls', st', sh', g')) (hS : SFc b base L xs D cs s lsA ls st sh g H locs) (hn : n0 ≤ sh.length) (hs0 : s0 ≤ slt sh) (hR1 : sh'.length - n0 ≤ R.cells) (hR2 : slt sh' - s0 ≤ R.slots)
    (kk : ∀ lsA' H' locs', SFc b base L xs D cs s lsA' ls' st' sh' g' H' locs' → W p l e R s m args below meth c H' locs' (sh'.length - n0) (slt sh' - s0) Q (F0 m pc1 lsA' (st'.map (evv b base)))) : W p l e R s m args below meth c H locs (sh.length - n0) (slt sh - s0) Q (F0 m pc lsA (st.map (evv b base))) := by
  obtain ⟨hx, hb, hown, hts, hwa, ⟨hK, hAO1, hAO2, hNw⟩, hX, hbb, ⟨h2n, hsz⟩, hini, hfr, hlo⟩ := hC
  unfold a_newa at h
  split at h
  · rename_i n r
    split at h
    · rename_i hin
      cases h
      have hi : iw n = n := okS_head hS.stO
      have hF := hS.2.1
      have e1 : (sh ++ [(21, n.toNat, [])]).length - n0 = sh.length - n0 + 1 := by rw [List.length_append, List.length_singleton]; omega
      have e2 : slt (sh ++ [(21, n.toNat, [])]) - s0 = slt sh - s0 + n.toNat := by rw [slt_psh]; dsimp only; omega
      rw [e1] at hR1
      rw [e2] at hR2
      rw [List.map_cons]
      refine va_newa (atype := .boolean) (ty := .boolean) (N' := n.toNat) (a0 := (n.toNat, .inl (fun _ => 0))) hx hb (hts _ (hwa _ hw)) rfl hK hS.1 ws_D hS.2.2.1 (fun q h => by omega) (fun cA => rfl) (by rw [ofI_0, ofI_lt hi iw_0]; omega) (ofI_nat hi) (by show n.toNat * 1 ≤ _; omega) hR1 hR2 hdg (fun q cA H1 hK1 hP1 hD1 hS1 => ?_)
      refine w_size (fun hu => ?_)
      have hq := q_of hP1 hD1 hsz hn h2n hu
      have hcA : cA = cs 1 := cs_of hK1 rfl
      have k3 := kk lsA H1 locs ⟨?_, PF_psh hF (fun _ => rfl), hS1, hS.lhO, hS.lsO, okS_cons True.intro (okS_tail hS.stO)⟩
      · rw [e1, e2, List.map_cons, evv_r (by have := hF.1; omega), adr_new hF.1, ← hq] at k3
        exact k3
      · rw [ws_psh hF.1 (fun a q ha => zr_ne ha), celE_z (s := (21, n.toNat, [])) rfl, ← hq, ← hcA]
        have z1 : (fun (k : Nat) => Int32.ofInt (zr g sh.length sh.length k)) = (fun _ => (0 : Int32)) := by
          funext k
          rw [show zr g sh.length sh.length k = 0 from if_pos rfl, ← ofI_0]
        rw [z1]
        exact hP1
    · cases h
  · cases h
theorem rep_rf {n : Nat} : (fun (k : Nat) => rfo b base ((List.replicate n (0 : Int)).getD k 0)) = (fun _ => (none : Option Nat)) := by
  funext k
  have : (List.replicate n (0 : Int)).getD k 0 = 0 := by
    rw [List.getD_eq_getElem?_getD, List.getElem?_replicate]
    split <;> rfl
  rw [this]
  rfl
theorem sr_newq (hC : Cxt b base L xs D cs j n0 Ts p R s m args meth c) (hdg : decode (bcm j) pc = .ok (.anewarray i, 3)) (hxx : x = 22 ∨ x = 23) (hw : Cond.classLink (ynm j).cls i (if x = 22 then RX0 else RX2) ∈ wsA)
    (h : a_newq x (pc + 3) ls st sh g = some (pc1, ls', st', sh', g')) (hS : SFc b base L xs D cs s lsA ls st sh g H locs) (hn : n0 ≤ sh.length) (hs0 : s0 ≤ slt sh) (hR1 : sh'.length - n0 ≤ R.cells) (hR2 : slt sh' - s0 ≤ R.slots)
    (kk : ∀ lsA' H' locs', SFc b base L xs D cs s lsA' ls' st' sh' g' H' locs' → W p l e R s m args below meth c H' locs' (sh'.length - n0) (slt sh' - s0) Q (F0 m pc1 lsA' (st'.map (evv b base)))) : W p l e R s m args below meth c H locs (sh.length - n0) (slt sh - s0) Q (F0 m pc lsA (st.map (evv b base))) := by
  obtain ⟨hx, hb, hown, hts, hwa, ⟨hK, hAO1, hAO2, hNw⟩, hX, hbb, ⟨h2n, hsz⟩, hini, hfr, hlo⟩ := hC
  unfold a_newq at h
  split at h
  · rename_i n r
    split at h
    · rename_i hin
      cases h
      have hi : iw n = n := okS_head hS.stO
      have hF := hS.2.1
      have e1 : (sh ++ [(x, n.toNat, List.replicate n.toNat 0)]).length - n0 = sh.length - n0 + 1 := by rw [List.length_append, List.length_singleton]; omega
      have e2 : slt (sh ++ [(x, n.toNat, List.replicate n.toNat 0)]) - s0 = slt sh - s0 + n.toNat := by rw [slt_psh]; dsimp only; omega
      rw [e1] at hR1
      rw [e2] at hR2
      rw [List.map_cons]
      rcases hxx with rfl | rfl
      · refine va_newq (C := RX0) (N' := n.toNat) hx hb hown (hts _ (hwa _ hw)) hAO1 hK hS.1 ws_D hS.2.2.1 (fun q h => by omega) (by rw [ofI_0, ofI_lt hi iw_0]; omega) (ofI_nat hi) (by omega) hR1 hR2 hdg (fun q cA H1 hK1 hP1 hD1 hS1 => ?_)
        refine w_size (fun hu => ?_)
        have hq := q_of hP1 hD1 hsz hn h2n hu
        have hcA : cA = cs 2 := cs_of hK1 rfl
        have k3 := kk lsA H1 locs ⟨?_, PF_psh hF (fun _ => rfl), hS1, hS.lhO, hS.lsO, okS_cons True.intro (okS_tail hS.stO)⟩
        · rw [e1, e2, List.map_cons, evv_r (by have := hF.1; omega), adr_new hF.1, ← hq] at k3
          exact k3
        · rw [ws_psh hF.1 (fun a q ha => zr_ne ha), celE_b (s := (22, n.toNat, List.replicate n.toNat 0)) rfl, ← hq, ← hcA, rep_rf]
          exact hP1
      · refine va_newq (C := RX2) (N' := n.toNat) hx hb hown (hts _ (hwa _ hw)) hAO2 hK hS.1 ws_D hS.2.2.1 (fun q h => by omega) (by rw [ofI_0, ofI_lt hi iw_0]; omega) (ofI_nat hi) (by omega) hR1 hR2 hdg (fun q cA H1 hK1 hP1 hD1 hS1 => ?_)
        refine w_size (fun hu => ?_)
        have hq := q_of hP1 hD1 hsz hn h2n hu
        have hcA : cA = cs 3 := cs_of hK1 rfl
        have k3 := kk lsA H1 locs ⟨?_, PF_psh hF (fun _ => rfl), hS1, hS.lhO, hS.lsO, okS_cons True.intro (okS_tail hS.stO)⟩
        · rw [e1, e2, List.map_cons, evv_r (by have := hF.1; omega), adr_new hF.1, ← hq] at k3
          exact k3
        · rw [ws_psh hF.1 (fun a q ha => zr_ne ha), celE_e (s := (23, n.toNat, List.replicate n.toNat 0)) rfl, ← hq, ← hcA, rep_rf]
          exact hP1
    · cases h
  · cases h
theorem sr_obj (hC : Cxt b base L xs D cs j n0 Ts p R s m args meth c) (hml : c.maxLocals = ls.length) (hdg : decode (bcm j) pc = .ok (.invokespecial i, 3))
    (hw : Cond.methodLink (ynm j).cls i objectInit ∈ wsA ∧ Cond.instanceMethod objectInit ∈ wsA ∧ Cond.code objectInit ⟨#[0xb1]⟩ 1 none ∈ wsA) (hrm : 1 ≤ (mtd j).2.2.2.2.1 ∧ 14 ≤ (mtd j).2.2.2.2.2.1)
    (h : a_obj (pc + 3) ls st sh g = some (pc1, ls', st', sh', g')) (hS : SFc b base L xs D cs s lsA ls st sh g H locs)
    (kk : ∀ lsA' H' locs', SFc b base L xs D cs s lsA' ls' st' sh' g' H' locs' → W p l e R s m args below meth c H' locs' (sh'.length - n0) (slt sh' - s0) Q (F0 m pc1 lsA' (st'.map (evv b base)))) : W p l e R s m args below meth c H locs (sh.length - n0) (slt sh - s0) Q (F0 m pc lsA (st.map (evv b base))) := by
  obtain ⟨hx, hb, hown, hts, hwa, ⟨hK, hAO1, hAO2, hNw⟩, hX, hbb, ⟨h2n, hsz⟩, hini, hfr, hlo⟩ := hC
  unfold a_obj at h
  split at h
  · rename_i a r
    split at h
    · rename_i hin
      have hr : r = [] := List.eq_nil_of_length_eq_zero hin.2
      subst hr
      cases h
      rw [List.map_cons, evv_r (by omega)]
      refine W.objInit hx hb hown (hts _ (hwa _ hw.1)) (hts _ (hwa _ hw.2.1)) (hts _ (hwa _ hw.2.2)) rfl (by rw [hml]; exact hS.lsz) rfl hdg (Nat.le_trans hrm.1 hfr) ?_ (kk lsA H locs (hS.stk (okS_tail hS.stO)))
      refine Nat.le_trans ?_ (Nat.le_trans hrm.2 hlo)
      show 2 * 0 + 0 + 12 ≤ 14
      omega
    · cases h
  · cases h
end SNB
