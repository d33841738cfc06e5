section SNA
variable {p : Program} {l : Launch} {e : Env} {R : Room} {s : State} {m : MethodId} {args : Array Value} {below : List Frame} {meth : Method} {c : Code} {Q : State → Prop}
variable {b base L j n0 s0 : Nat} {xs : Nat → Int32} {D : va_G} {cs : Nat → ClassId} {Ts : List Cond} {pc pc' pc1 x y i : Nat} {z : Int} {ls ls' st st' : List AVal} {sh sh' : List AShp} {g g' : AMem} {lsA : Array Slot} {H : Heap} {locs : List Loc}
theorem fn_up {a i x : Int} (h0 : 0 ≤ i) : (fun (j : Nat) => Int32.ofInt (up g a i x a j)) = upd (fun (j : Nat) => Int32.ofInt (g a j)) i.toNat (Int32.ofInt x) := by
  funext j
  unfold up upd
  by_cases e : j = i.toNat
  · subst e
    rw [if_pos ⟨rfl, by omega⟩, if_pos rfl]
  · rw [if_neg (by omega), if_neg e]
theorem sr_iald (hC : Cxt b base L xs D cs j n0 Ts p R s m args meth c) (hdg : decode (bcm j) pc = .ok (.iaload, 1))
    (h : a_iald (pc + 1) ls st sh g = some (pc1, ls', st', sh', g')) (hS : SFc b base L xs D cs s lsA ls st sh g H locs)
    (kk : ∀ lsA' H' locs', SFc b base L xs D cs s lsA' ls' st' sh' g' H' locs' → W p l e R s m args below meth c H' locs' (sh'.length - n0) (slt sh' - s0) Q (F0 m pc1 lsA' (st'.map (evv b base)))) : W p l e R s m args below meth c H locs (sh.length - n0) (slt sh - s0) Q (F0 m pc lsA (st.map (evv b base))) := by
  obtain ⟨hx, hb, hown, hts, hwa, ⟨hK, hAO1, hAO2, hNw⟩, hX, hbb, ⟨h2n, hsz⟩, hini, hfr, hlo⟩ := hC
  unfold a_iald at h
  split at h
  · rename_i i a r
    split at h
    · rename_i hin
      cases h
      have hi : iw i = i := okS_head hS.stO
      have e : ((Int32.ofInt i).toNatClampNeg : Int) = i := by rw [ofI_nat hi]; omega
      have hF := hS.2.1
      obtain ⟨h0, hin⟩ := hin
      unfold aln at hin
      split at hin
      · rename_i q hq
        split at hin
        · rename_i hk
          rcases hk with hk | ⟨hk, rfl⟩
          · have h2 := sh_2 hF hq (Or.inl hk)
            have he := ws_at (b := b) (base := base) (cs := cs) (g := g) hq h2
            rw [celE_i hk] at he
            rw [List.map_cons, List.map_cons, evv_r (by omega)]
            refine va_iald hx hb hK hS.1 (a.toNat - 2) 0 he rfl ((ofI_in hi).mpr ⟨h0, hin⟩) hdg ?_
            rw [e]
            refine kk lsA H locs (hS.stk (okS_cons ((hF.2.2.2.2.1 a i).1 ?_) (okS_tail (okS_tail hS.stO))))
            rw [plk_at hq, if_pos (Or.inl hk)]
          · rw [show ((1 : Int).toNat) = 1 from rfl, hF.2.2.1] at hq
            cases hq
            rw [List.map_cons, List.map_cons, evv_r (by omega), show adr b base 1 = b from rfl]
            refine va_sld hx hb hX (by omega) (by omega) hS.2.2.1 ((ofI_in hi).mpr ⟨h0, hin⟩) hdg ?_
            have h6 := hF.2.2.2.2.2 (Int32.ofInt i).toNatClampNeg (by rw [ofI_nat hi]; dsimp only at hin; omega)
            rw [← h6, e]
            refine kk lsA H locs (hS.stk (okS_cons ((hF.2.2.2.2.1 1 i).1 ?_) (okS_tail (okS_tail hS.stO))))
            rw [plk_at (show sh[(1 : Int).toNat]? = _ from hF.2.2.1), if_pos (Or.inr (Or.inr rfl))]
        · omega
      · omega
    · cases h
  · cases h
theorem sr_iast (hC : Cxt b base L xs D cs j n0 Ts p R s m args meth c) (hdg : decode (bcm j) pc = .ok (.iastore, 1))
    (h : a_iast (pc + 1) ls st sh g = some (pc1, ls', st', sh', g')) (hS : SFc b base L xs D cs s lsA ls st sh g H locs)
    (kk : ∀ lsA' H' locs', SFc b base L xs D cs s lsA' ls' st' sh' g' H' locs' → W p l e R s m args below meth c H' locs' (sh'.length - n0) (slt sh' - s0) Q (F0 m pc1 lsA' (st'.map (evv b base)))) : W p l e R s m args below meth c H locs (sh.length - n0) (slt sh - s0) Q (F0 m pc lsA (st.map (evv b base))) := by
  obtain ⟨hx, hb, hown, hts, hwa, ⟨hK, hAO1, hAO2, hNw⟩, hX, hbb, ⟨h2n, hsz⟩, hini, hfr, hlo⟩ := hC
  unfold a_iast at h
  split at h
  · rename_i u i a r
    split at h
    · rename_i hin
      cases h
      have hu : iw u = u := okS_head hS.stO
      have hi : iw i = i := okS_head (okS_tail hS.stO)
      have hF := hS.2.1
      obtain ⟨h0, hin, h2⟩ := hin
      unfold aln at hin
      split at hin
      · rename_i q hq
        split at hin
        · rename_i hk
          rcases hk with hk | ⟨-, rfl⟩
          · have he := ws_at (b := b) (base := base) (cs := cs) (g := g) hq h2
            rw [celE_i hk] at he
            rw [List.map_cons, List.map_cons, List.map_cons, evv_r (by omega)]
            refine va_iast hx hb hK hS.1 ws_D hS.2.2.1 (a.toNat - 2) 0 he rfl ((ofI_in hi).mpr ⟨h0, hin⟩) hdg (fun H1 locs1 hP1 _ hS1 => ?_)
            have hpl : plk sh a i = 0 := by rw [plk_at hq, if_pos (Or.inl hk)]
            refine kk lsA H1 locs1 ⟨?_, PF_up hF h2 (fun _ => hu) (fun z => by omega), hS1, hS.lhO, hS.lsO, okS_tail (okS_tail (okS_tail hS.stO))⟩
            rw [ws_mem (g := g) (g' := up g a i u) hq h2 (fun a q ha => up_ne ha), celE_i hk, fn_up h0]
            rw [ofI_nat hi] at hP1
            exact hP1
          · omega
        · omega
      · omega
    · cases h
  · cases h
theorem vnar_b {x : Int} (h : x = 0 ∨ x = 1) : vp_nar .boolean (Int32.ofInt x) = Int32.ofInt x := by
  rcases h with rfl | rfl <;> decide +kernel
theorem sr_bald (hC : Cxt b base L xs D cs j n0 Ts p R s m args meth c) (hdg : decode (bcm j) pc = .ok (.baload, 1))
    (h : a_bald (pc + 1) ls st sh g = some (pc1, ls', st', sh', g')) (hS : SFc b base L xs D cs s lsA ls st sh g H locs)
    (kk : ∀ lsA' H' locs', SFc b base L xs D cs s lsA' ls' st' sh' g' H' locs' → W p l e R s m args below meth c H' locs' (sh'.length - n0) (slt sh' - s0) Q (F0 m pc1 lsA' (st'.map (evv b base)))) : W p l e R s m args below meth c H locs (sh.length - n0) (slt sh - s0) Q (F0 m pc lsA (st.map (evv b base))) := by
  obtain ⟨hx, hb, hown, hts, hwa, ⟨hK, hAO1, hAO2, hNw⟩, hX, hbb, ⟨h2n, hsz⟩, hini, hfr, hlo⟩ := hC
  unfold a_bald at h
  split at h
  · rename_i i a r
    split at h
    · rename_i hin
      cases h
      have hi : iw i = i := okS_head hS.stO
      have e : ((Int32.ofInt i).toNatClampNeg : Int) = i := by rw [ofI_nat hi]; omega
      have hF := hS.2.1
      obtain ⟨h0, hin⟩ := hin
      unfold bln at hin
      split at hin
      · rename_i q hq
        split at hin
        · rename_i hk
          have h2 := sh_2 hF hq (Or.inr (Or.inl hk))
          have he := ws_at (b := b) (base := base) (cs := cs) (g := g) hq h2
          rw [celE_z hk] at he
          rw [List.map_cons, List.map_cons, evv_r (by omega)]
          refine va_zald hx hb hK hS.1 (a.toNat - 2) 1 he rfl ((ofI_in hi).mpr ⟨h0, hin⟩) hdg ?_
          rw [e]
          refine kk lsA H locs (hS.stk (okS_cons ((hF.2.2.2.2.1 a i).1 ?_) (okS_tail (okS_tail hS.stO))))
          rw [plk_at hq, if_pos (Or.inr (Or.inl hk))]
        · omega
      · omega
    · cases h
  · cases h
theorem sr_bast (hC : Cxt b base L xs D cs j n0 Ts p R s m args meth c) (hdg : decode (bcm j) pc = .ok (.bastore, 1))
    (h : a_bast (pc + 1) ls st sh g = some (pc1, ls', st', sh', g')) (hS : SFc b base L xs D cs s lsA ls st sh g H locs)
    (kk : ∀ lsA' H' locs', SFc b base L xs D cs s lsA' ls' st' sh' g' H' locs' → W p l e R s m args below meth c H' locs' (sh'.length - n0) (slt sh' - s0) Q (F0 m pc1 lsA' (st'.map (evv b base)))) : W p l e R s m args below meth c H locs (sh.length - n0) (slt sh - s0) Q (F0 m pc lsA (st.map (evv b base))) := by
  obtain ⟨hx, hb, hown, hts, hwa, ⟨hK, hAO1, hAO2, hNw⟩, hX, hbb, ⟨h2n, hsz⟩, hini, hfr, hlo⟩ := hC
  unfold a_bast at h
  split at h
  · rename_i u i a r
    split at h
    · rename_i hin
      cases h
      have hu : iw u = u := okS_head hS.stO
      have hi : iw i = i := okS_head (okS_tail hS.stO)
      have hF := hS.2.1
      obtain ⟨h0, hin, hub⟩ := hin
      unfold bln at hin
      split at hin
      · rename_i q hq
        split at hin
        · rename_i hk
          have h2 := sh_2 hF hq (Or.inr (Or.inl hk))
          have he := ws_at (b := b) (base := base) (cs := cs) (g := g) hq h2
          rw [celE_z hk] at he
          rw [List.map_cons, List.map_cons, List.map_cons, evv_r (by omega)]
          refine va_zast hx hb hK hS.1 ws_D hS.2.2.1 (a.toNat - 2) 1 he rfl ((ofI_in hi).mpr ⟨h0, hin⟩) hdg (fun H1 locs1 hP1 _ hS1 => ?_)
          have hpl : plk sh a i = 0 := by rw [plk_at hq, if_pos (Or.inr (Or.inl hk))]
          refine kk lsA H1 locs1 ⟨?_, PF_up hF h2 (fun _ => hu) (fun z => by omega), hS1, hS.lhO, hS.lsO, okS_tail (okS_tail (okS_tail hS.stO))⟩
          rw [ws_mem (g := g) (g' := up g a i u) hq h2 (fun a q ha => up_ne ha), celE_z hk, fn_up h0]
          rw [ofI_nat hi, vnar_b hub] at hP1
          exact hP1
        · omega
      · omega
    · cases h
  · cases h
theorem sr_aald (hC : Cxt b base L xs D cs j n0 Ts p R s m args meth c) (hdg : decode (bcm j) pc = .ok (.aaload, 1))
    (h : a_aald (pc + 1) ls st sh g = some (pc1, ls', st', sh', g')) (hS : SFc b base L xs D cs s lsA ls st sh g H locs)
    (kk : ∀ lsA' H' locs', SFc b base L xs D cs s lsA' ls' st' sh' g' H' locs' → W p l e R s m args below meth c H' locs' (sh'.length - n0) (slt sh' - s0) Q (F0 m pc1 lsA' (st'.map (evv b base)))) : W p l e R s m args below meth c H locs (sh.length - n0) (slt sh - s0) Q (F0 m pc lsA (st.map (evv b base))) := by
  obtain ⟨hx, hb, hown, hts, hwa, ⟨hK, hAO1, hAO2, hNw⟩, hX, hbb, ⟨h2n, hsz⟩, hini, hfr, hlo⟩ := hC
  unfold a_aald at h
  split at h
  · rename_i i a r
    split at h
    · rename_i hin
      cases h
      have hi : iw i = i := okS_head hS.stO
      have hF := hS.2.1
      obtain ⟨h0, hin⟩ := hin
      unfold rln at hin
      split at hin
      · rename_i q hq
        split at hin
        · rename_i hk
          have h2 := sh_2 hF hq (by omega)
          have he := ws_at (b := b) (base := base) (cs := cs) (g := g) hq h2
          have hf : fin_ sh a i.toNat = q.2.2.getD i.toNat 0 := by
            unfold fin_
            rw [hq]
          rw [List.map_cons, List.map_cons, evv_r (by omega)]
          have k3 := kk lsA H locs (hS.stk (okS_cons True.intro (okS_tail (okS_tail hS.stO))))
          rw [hf] at k3
          rcases hk with hk | hk
          · rw [celE_b hk] at he
            refine va_aldq hx hb hK hS.1 (a.toNat - 2) 2 he rfl ((ofI_in hi).mpr ⟨h0, hin⟩) hdg ?_
            rw [ofI_nat hi]
            exact k3
          · rw [celE_e hk] at he
            refine va_aldq hx hb hK hS.1 (a.toNat - 2) 3 he rfl ((ofI_in hi).mpr ⟨h0, hin⟩) hdg ?_
            rw [ofI_nat hi]
            exact k3
        · omega
      · omega
    · cases h
  · cases h
theorem fn_rf {rf : List Int} {i : Nat} {v : Int} (hi : i < rf.length) (hv : 1 ≤ v) : (fun (j : Nat) => rfo b base ((rf.set i v).getD j 0)) = va_up (fun (j : Nat) => rfo b base (rf.getD j 0)) i (some (adr b base v)) := by
  funext j
  unfold va_up
  by_cases e : j = i
  · subst e
    rw [if_pos rfl, List.getD_eq_getElem?_getD, List.getElem?_set_self hi, Option.getD_some, rfo, if_pos hv]
  · rw [if_neg e, List.getD_eq_getElem?_getD, List.getElem?_set_ne (Ne.symm e), ← List.getD_eq_getElem?_getD]
theorem sr_aast (hC : Cxt b base L xs D cs j n0 Ts p R s m args meth c) (hdg : decode (bcm j) pc = .ok (.aastore, 1))
    (h : a_aast (pc + 1) ls st sh g = some (pc1, ls', st', sh', g')) (hS : SFc b base L xs D cs s lsA ls st sh g H locs)
    (kk : ∀ lsA' H' locs', SFc b base L xs D cs s lsA' ls' st' sh' g' H' locs' → W p l e R s m args below meth c H' locs' (sh'.length - n0) (slt sh' - s0) Q (F0 m pc1 lsA' (st'.map (evv b base)))) : W p l e R s m args below meth c H locs (sh.length - n0) (slt sh - s0) Q (F0 m pc lsA (st.map (evv b base))) := by
  obtain ⟨hx, hb, hown, hts, hwa, ⟨hK, hAO1, hAO2, hNw⟩, hX, hbb, ⟨h2n, hsz⟩, hini, hfr, hlo⟩ := hC
  unfold a_aast at h
  split at h
  · rename_i v i a r
    split at h
    · rename_i hin
      have hi : iw i = i := okS_head (okS_tail hS.stO)
      have hF := hS.2.1
      obtain ⟨h0, hin, hil, hkk⟩ := hin
      unfold rln at hin
      split at hin
      · rename_i q hq
        have hqD : sh[a.toNat]?.getD (0, 0, []) = q := by rw [hq]; rfl
        rw [hqD] at h hil
        split at hin
        · rename_i hk
          have h2 := sh_2 hF hq (by omega)
          have hkq : kin sh a = q.1 := by unfold kin; rw [hq]; exact if_pos h2
          have he := ws_at (b := b) (base := base) (cs := cs) (g := g) hq h2
          cases h
          rcases hkk with ⟨k1, k2⟩ | ⟨k1, k2⟩
          · obtain ⟨q2, hq2, hq21, h22⟩ := kin_of k2 (by omega)
            have hv := ws_at (b := b) (base := base) (cs := cs) (g := g) hq2 h22
            rw [celE_o (by omega), hq21] at hv
            rw [celE_b (by omega)] at he
            rw [List.map_cons, List.map_cons, List.map_cons, evv_r (by omega), evv_r (by omega)]
            refine va_astq (r := (RX0, TX0, 2)) hx hb hK hS.1 ws_D hS.2.2.1 (a.toNat - 2) 2 (v.toNat - 2) 0 he rfl hv rfl ((ofI_in hi).mpr ⟨h0, hin⟩) hdg (fun H1 locs1 hP1 _ hS1 => ?_)
            have k5 := kk lsA H1 locs1 ⟨?_, PF_set hF hq rfl (by omega), hS1, hS.lhO, hS.lsO, okS_tail (okS_tail (okS_tail hS.stO))⟩
            · rw [List.length_set, slt_set hq (q.1, q.2.1, q.2.2.set i.toNat v) rfl] at k5
              exact k5
            · rw [ws_shp (List.getElem?_eq_some_iff.mp hq).1 h2, celE_b (s := (q.1, q.2.1, q.2.2.set i.toNat v)) (by show q.1 = 22; omega), fn_rf hil (by omega)]
              rw [ofI_nat hi] at hP1
              exact hP1
          · obtain ⟨q2, hq2, hq21, h22⟩ := kin_of k2 (by omega)
            have hv := ws_at (b := b) (base := base) (cs := cs) (g := g) hq2 h22
            rw [celE_o (by omega), hq21] at hv
            rw [celE_e (by omega)] at he
            rw [List.map_cons, List.map_cons, List.map_cons, evv_r (by omega), evv_r (by omega)]
            refine va_astq (r := (RX2, TX2, 4)) hx hb hK hS.1 ws_D hS.2.2.1 (a.toNat - 2) 3 (v.toNat - 2) 2 he rfl hv rfl ((ofI_in hi).mpr ⟨h0, hin⟩) hdg (fun H1 locs1 hP1 _ hS1 => ?_)
            have k5 := kk lsA H1 locs1 ⟨?_, PF_set hF hq rfl (by omega), hS1, hS.lhO, hS.lsO, okS_tail (okS_tail (okS_tail hS.stO))⟩
            · rw [List.length_set, slt_set hq (q.1, q.2.1, q.2.2.set i.toNat v) rfl] at k5
              exact k5
            · rw [ws_shp (List.getElem?_eq_some_iff.mp hq).1 h2, celE_e (s := (q.1, q.2.1, q.2.2.set i.toNat v)) (by show q.1 = 23; omega), fn_rf hil (by omega)]
              rw [ofI_nat hi] at hP1
              exact hP1
        · omega
      · omega
    · cases h
  · cases h
theorem sr_alen (hC : Cxt b base L xs D cs j n0 Ts p R s m args meth c) (hdg : decode (bcm j) pc = .ok (.arraylength, 1))
    (h : a_alen (pc + 1) ls st sh g = some (pc1, ls', st', sh', g')) (hS : SFc b base L xs D cs s lsA ls st sh g H locs)
    (kk : ∀ lsA' H' locs', SFc b base L xs D cs s lsA' ls' st' sh' g' H' locs' → W p l e R s m args below meth c H' locs' (sh'.length - n0) (slt sh' - s0) Q (F0 m pc1 lsA' (st'.map (evv b base)))) : W p l e R s m args below meth c H locs (sh.length - n0) (slt sh - s0) Q (F0 m pc lsA (st.map (evv b base))) := by
  obtain ⟨hx, hb, hown, hts, hwa, ⟨hK, hAO1, hAO2, hNw⟩, hX, hbb, ⟨h2n, hsz⟩, hini, hfr, hlo⟩ := hC
  unfold a_alen at h
  split at h
  · rename_i a r
    split at h
    · rename_i hin
      cases h
      have hF := hS.2.1
      obtain ⟨hk, hle⟩ := hin
      have hnn : 0 ≤ aln sh a := by
        unfold aln
        split
        · split <;> omega
        · omega
      have k3 := kk lsA H locs (hS.stk (okS_cons (show iw (aln sh a) = aln sh a from iw_id (by omega) (by omega)) (okS_tail hS.stO)))
      rcases hk with hk | rfl
      · obtain ⟨q, hq, hq1, h2⟩ := kin_of hk (by omega)
        have he := ws_at (b := b) (base := base) (cs := cs) (g := g) hq h2
        rw [celE_i hq1] at he
        have hl : aln sh a = q.2.1 := by
          unfold aln
          rw [hq]
          exact if_pos (Or.inl hq1)
        rw [List.map_cons, evv_r (by omega)]
        refine va_alen hx hb hK hS.1 (a.toNat - 2) 0 he rfl (v := Int32.ofInt (aln sh a)) ?_ hdg k3
        rw [hl, Int32.ofInt_eq_ofNat]
      · have hl : aln sh 1 = L := by
          unfold aln
          rw [show ((1 : Int).toNat) = 1 from rfl, hF.2.2.1]
          exact if_pos (Or.inr ⟨rfl, rfl⟩)
        rw [List.map_cons, evv_r (by omega), show adr b base 1 = b from rfl]
        refine va_slen hx hb hX (by omega) (by omega) hS.2.2.1 hdg ?_
        rw [List.map_cons, hl] at k3
        rw [← Int32.ofInt_eq_ofNat]
        exact k3
    · cases h
  · cases h
end SNA
