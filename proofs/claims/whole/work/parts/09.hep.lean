theorem kin_of {sh : List AShp} {t : Int} {x : Nat} (h : kin sh t = x) (hx : x < 90) : ∃ s : AShp, sh[t.toNat]? = some s ∧ s.1 = x ∧ 2 ≤ t := by
  unfold kin at h
  split at h
  · rename_i s hs
    split at h
    · rename_i h2
      exact ⟨s, hs, h, h2⟩
    · omega
  · omega
section HEP
variable {b base : Nat} {cs : Nat → ClassId} {s : AShp} {a : Int} {g : AMem}
theorem celE_o (h : s.1 < 11) : celE b base cs s a g = .inr (s.1, fldE b base s a g) := by
  unfold celE
  rw [if_neg (by omega), if_neg (by omega), if_neg (by omega), if_neg (by omega)]
theorem celE_i (h : s.1 = 20) : celE b base cs s a g = .inl (cs 0, s.2.1, .inl (fun (j : Nat) => Int32.ofInt (g a j))) := by
  unfold celE
  rw [if_pos h]
theorem celE_z (h : s.1 = 21) : celE b base cs s a g = .inl (cs 1, s.2.1, .inl (fun (j : Nat) => Int32.ofInt (g a j))) := by
  unfold celE
  rw [if_neg (by omega), if_pos h]
theorem celE_b (h : s.1 = 22) : celE b base cs s a g = .inl (cs 2, s.2.1, .inr (.inr (.inr (.inr (fun (j : Nat) => rfo b base (s.2.2.getD j 0)))))) := by
  unfold celE
  rw [if_neg (by omega), if_neg (by omega), if_pos h]
theorem celE_e (h : s.1 = 23) : celE b base cs s a g = .inl (cs 3, s.2.1, .inr (.inr (.inr (.inr (fun (j : Nat) => rfo b base (s.2.2.getD j 0)))))) := by
  unfold celE
  rw [if_neg (by omega), if_neg (by omega), if_neg (by omega), if_pos h]
end HEP
theorem up_ne {g : AMem} {t k u a q : Int} (h : a ≠ t) : up g t k u a q = g a q := if_neg (fun e => h e.1)
theorem evv_0 (b base t : Nat) : evv b base (fvl t 0 0) = evv 0 0 (fvl t 0 0) := by
  match t with
  | 0 => rfl
  | 1 => rfl
  | 2 => rfl
  | t + 3 => rfl
theorem sh_2 {L : Nat} {xs : Nat → Int32} {sh : List AShp} {g : AMem} (hF : PF L xs sh g) {a : Int} {s : AShp} (hs : sh[a.toNat]? = some s) (h : s.1 = 20 ∨ s.1 = 21 ∨ s.1 = 22 ∨ s.1 = 23) : 2 ≤ a := by
  obtain ⟨-, h0, h1, -⟩ := hF
  by_cases e0 : a.toNat = 0
  · rw [e0, h0] at hs
    cases hs
    simp at h
  · by_cases e1 : a.toNat = 1
    · rw [e1, h1] at hs
      cases hs
      simp at h
    · omega
theorem rf_fit {ty : FieldType} (h : (∃ C, ty = .object C) ∨ ∃ t, ty = .array t) (r : Option Nat) : narrow ty (va_rf r) = va_rf r ∧ fits ty (va_rf r) = true := by
  rcases h with ⟨C, rfl⟩ | ⟨t, rfl⟩ <;> cases r <;> exact ⟨rfl, rfl⟩
section SNH
variable {p : Program} {l : Launch} {e : Env} {R : Room} {s : State} {m : MethodId} {args : Array Value} {below : List Frame} {meth : Method} {c : Code} {Q : State → Prop}
variable {b base L j n0 s0 : Nat} {xs : Nat → Int32} {D : va_G} {cs : Nat → ClassId} {Ts : List Cond} {pc pc' pc1 x y i : Nat} {z : Int} {ls ls' st st' : List AVal} {sh sh' : List AShp} {g g' : AMem} {lsA : Array Slot} {H : Heap} {locs : List Loc}
theorem w_size {cells slots : Nat} {fr : JFrame} (h : H.size ≤ s.heap.size + cells → W p l e R s m args below meth c H locs cells slots Q fr) : W p l e R s m args below meth c H locs cells slots Q fr :=
  fun T hT X => h (by have h1 := X.heapSize; rw [hT] at h1; exact h1) T hT X
theorem sz_of (hP : va_P D vwCl (WSa b base cs sh g) H) (hS : va_S (fun q : Nat => base ≤ q) s.heap H locs) (hsz : s.heap.size = base + (n0 - 2)) (hn : n0 ≤ sh.length) (h2 : 2 ≤ n0) (hu : H.size ≤ s.heap.size + (sh.length - n0)) : H.size = base + (sh.length - 2) := by
  have h3 : base + (sh.length - 2) ≤ H.size := by
    by_cases e : sh.length = n0
    · have := hS.1
      rw [e]
      omega
    · have h4 := (hP (sh.length - 3) _ (ws_ix (by omega))).lt
      dsimp only at h4
      omega
  omega
theorem q_of {q : Nat} {u : va_E} {H1 : Heap} (hP : va_P D vwCl (WSa b base cs sh g ++ [(q, u)]) H1) (hD : va_D (fun q : Nat => base ≤ q) (WSa b base cs sh g ++ [(q, u)])) (hsz : s.heap.size = base + (n0 - 2)) (hn : n0 ≤ sh.length) (h2 : 2 ≤ n0) (hu : H1.size ≤ s.heap.size + (sh.length - n0 + 1)) : q = base + (sh.length - 2) := by
  have hl : (WSa b base cs sh g ++ [(q, u)])[sh.length - 2]? = some (q, u) := by
    rw [List.getElem?_append_right (by rw [ws_len]; exact Nat.le_refl _), ws_len, Nat.sub_self]
    rfl
  have h1 := (hP _ _ hl).lt
  have h3 : base ≤ q := hD.2 _ _ hl
  dsimp only at h1
  rcases Nat.lt_or_ge q (base + (sh.length - 2)) with h4 | h4
  · obtain ⟨u2, h5⟩ : ∃ u2, (WSa b base cs sh g ++ [(q, u)])[q - base]? = some (base + (q - base), u2) := ⟨_, by rw [List.getElem?_append_left (by rw [ws_len]; omega), ws_ix (by omega)]⟩
    have h6 := hD.1 _ _ _ _ h5 hl (by dsimp only; omega)
    omega
  · omega
theorem plk_at {t k : Int} {r : AShp} (hs : sh[t.toNat]? = some r) : plk sh t k = if r.1 = 20 ∨ r.1 = 21 ∨ r.1 = 30 then 0 else (jfld r.1).getD k.toNat 9 := by
  unfold plk
  rw [hs]
theorem sr_getf (hC : Cxt b base L xs D cs j n0 Ts p R s m args meth c) (hdg : decode (bcm j) pc = .ok (.getfield i, 3)) (hx11 : x < 11) (hw : Cond.fieldLink (ynm j).cls i (vcl x).1 ((vcl x).2.1 y).2.1 ((vcl x).2.1 y).2.2.1 ∈ wsA)
    (h : a_getf x y (pc + 3) ls st sh g = some (pc1, ls', st', sh', g')) (hS : SFc b base L xs D cs s lsA ls st sh g H locs)
    (kk : ∀ lsA' H' locs', SFc b base L xs D cs s lsA' ls' st' sh' g' H' locs' → W p l e R s m args below meth c H' locs' (sh'.length - n0) (slt sh' - s0) Q (F0 m pc1 lsA' (st'.map (evv b base)))) : W p l e R s m args below meth c H locs (sh.length - n0) (slt sh - s0) Q (F0 m pc lsA (st.map (evv b base))) := by
  obtain ⟨hx, hb, hown, hts, hwa, ⟨hK, hAO1, hAO2, hNw⟩, hX, hbb, ⟨h2n, hsz⟩, hini, hfr, hlo⟩ := hC
  unfold a_getf at h
  split at h
  · rename_i t r
    split at h
    · rename_i hk
      obtain ⟨q, hq, hq1, h2⟩ := kin_of hk (by omega)
      have hv := vcl_at hx11
      obtain ⟨hN, -, hnm, hdec, ty, hty, hdf⟩ := clsOK _ _ _ _ hv
      have he := ws_at (b := b) (base := base) (cs := cs) (g := g) hq h2
      rw [celE_o (by omega)] at he
      rw [List.map_cons, evv_r (by omega)]
      have go : ∀ t1 : Nat, (jfld x)[y]? = some t1 → W p l e R s m args below meth c H locs (sh.length - n0) (slt sh - s0) Q (F0 m (pc + 3) lsA (evv b base (fvl t1 (g t y) (q.2.2.getD y 0)) :: r.map (evv b base))) → W p l e R s m args below meth c H locs (sh.length - n0) (slt sh - s0) Q (F0 m pc lsA (.ref (adr b base t) :: r.map (evv b base))) := by
        intro t1 ht1 k
        have hlt := (List.getElem?_eq_some_iff.mp ht1).1
        refine va_get (C := (vcl x).1) (T := (vcl x).2.1) (N := (vcl x).2.2) (ref := (vcl x).1) hx hb hts (fun w h => hwa w (cls_wA _ _ _ _ hv w h)) hown hK hS.1 (t.toNat - 2) he (by rw [hq1]; exact hv) y (by rw [hN]; exact hlt) (hts _ (hwa _ hw)) (fun u hu => by rw [hdec y (by rw [hN]; exact hlt)] at hu; exact hu) (fld_at (by rw [hq1]; exact ht1)) hdg k
      have hM := hS.2.1.2.2.2.2.1
      split at h
      · rename_i hs0
        cases h
        have hp : plk sh t (y : Int) = 0 := by
          rw [plk_at hq, if_neg (by omega), hq1, Int.toNat_natCast, List.getD_eq_getElem?_getD, hs0]
          rfl
        exact go 0 hs0 (kk lsA H locs (hS.stk (okS_cons ((hM t y).1 hp) (okS_tail hS.stO))))
      · rename_i hs0
        cases h
        have hp : plk sh t (y : Int) = 1 := by
          rw [plk_at hq, if_neg (by omega), hq1, Int.toNat_natCast, List.getD_eq_getElem?_getD, hs0]
          rfl
        exact go 1 hs0 (kk lsA H locs (hS.stk (okS_cons ((hM t y).2 hp) (okS_tail hS.stO))))
      · rename_i hs0
        split at h
        · cases h
          exact go 2 hs0 (kk lsA H locs (hS.stk (okS_cons True.intro (okS_tail hS.stO))))
        · cases h
      · rename_i hs0
        cases h
        have hf : fin_ sh t y = q.2.2.getD y 0 := by
          unfold fin_
          rw [hq]
        have k3 := kk lsA H locs (hS.stk (okS_cons True.intro (okS_tail hS.stO)))
        rw [hf] at k3
        exact go 3 hs0 k3
      · cases h
    · cases h
  · cases h
theorem okM_up {t k u : Int} (h : okM sh g) (h0 : plk sh t k = 0 → iw u = u) (h1 : plk sh t k = 1 → lw u = u) : okM sh (up g t k u) := by
  intro a q
  unfold up
  by_cases e : a = t ∧ q = k
  · rw [if_pos e]
    obtain ⟨rfl, rfl⟩ := e
    exact ⟨h0, h1⟩
  · rw [if_neg e]
    exact h a q
theorem PF_up {t k u : Int} (h : PF L xs sh g) (h2 : 2 ≤ t) (h0 : plk sh t k = 0 → iw u = u) (h1 : plk sh t k = 1 → lw u = u) : PF L xs sh (up g t k u) := by
  obtain ⟨a1, a2, a3, a4, a5, a6⟩ := h
  refine ⟨a1, a2, a3, a4, okM_up a5 h0 h1, fun q hq => ?_⟩
  rw [show up g t k u 1 q = g 1 q from if_neg (fun e => by omega)]
  exact a6 q hq
theorem slt_set {k : Nat} {r : AShp} (h : sh[k]? = some r) (v : AShp) (hv : v.2.1 = r.2.1) : slt (sh.set k v) = slt sh := by
  unfold slt
  congr 1
  apply List.ext_getElem?
  intro q
  rw [List.getElem?_map, List.getElem?_map]
  by_cases e : k = q
  · subst e
    rw [List.getElem?_set_self (List.getElem?_eq_some_iff.mp h).1, h]
    simp [hv]
  · rw [List.getElem?_set_ne e]
theorem plk_set {k : Nat} {r v : AShp} (h : sh[k]? = some r) (hv : v.1 = r.1) (a q : Int) : plk (sh.set k v) a q = plk sh a q := by
  unfold plk
  by_cases e : k = a.toNat
  · subst e
    rw [List.getElem?_set_self (List.getElem?_eq_some_iff.mp h).1, h]
    simp [hv]
  · rw [List.getElem?_set_ne e]
theorem PF_set {k : Nat} {r v : AShp} (hF : PF L xs sh g) (h : sh[k]? = some r) (hv : v.1 = r.1) (h2 : 2 ≤ k) : PF L xs (sh.set k v) g := by
  obtain ⟨a1, a2, a3, a4, a5, a6⟩ := hF
  refine ⟨by rw [List.length_set]; exact a1, by rw [List.getElem?_set_ne (by omega)]; exact a2, by rw [List.getElem?_set_ne (by omega)]; exact a3, a4, fun a q => ?_, a6⟩
  rw [plk_set h hv]
  exact a5 a q
theorem sr_putf (hC : Cxt b base L xs D cs j n0 Ts p R s m args meth c) (hdg : decode (bcm j) pc = .ok (.putfield i, 3)) (hx11 : x < 11) (hw : Cond.fieldLink (ynm j).cls i (vcl x).1 ((vcl x).2.1 y).2.1 ((vcl x).2.1 y).2.2.1 ∈ wsA)
    (hnb : (match (jfld x)[y]?, parseFieldDescriptor ((vcl x).2.1 y).2.2.1 with
    | some 0, some .int => !((vcl x).2.1 y).2.2.2
    | some 1, some .long => !((vcl x).2.1 y).2.2.2
    | some 2, some (.object _) => !((vcl x).2.1 y).2.2.2
    | some 2, some (.array _) => !((vcl x).2.1 y).2.2.2
    | some 3, some (.object _) => ((vcl x).2.1 y).2.2.2 && decide ((ynm j).name = "<init>" ∧ ((vcl x).2.1 y).1 = (ynm j).cls)
    | some 3, some (.array _) => ((vcl x).2.1 y).2.2.2 && decide ((ynm j).name = "<init>" ∧ ((vcl x).2.1 y).1 = (ynm j).cls)
    | _, _ => false) = true)
    (h : a_putf x y (pc + 3) ls st sh g = some (pc1, ls', st', sh', g')) (hS : SFc b base L xs D cs s lsA ls st sh g H locs)
    (kk : ∀ lsA' H' locs', SFc b base L xs D cs s lsA' ls' st' sh' g' H' locs' → W p l e R s m args below meth c H' locs' (sh'.length - n0) (slt sh' - s0) Q (F0 m pc1 lsA' (st'.map (evv b base)))) : W p l e R s m args below meth c H locs (sh.length - n0) (slt sh - s0) Q (F0 m pc lsA (st.map (evv b base))) := by
  obtain ⟨hx, hb, hown, hts, hwa, ⟨hK, hAO1, hAO2, hNw⟩, hX, hbb, ⟨h2n, hsz⟩, hini, hfr, hlo⟩ := hC
  unfold a_putf at h
  split at h
  · rename_i v t r
    split at h
    · rename_i hk
      obtain ⟨q, hq, hq1, h2⟩ := kin_of hk (by omega)
      have hv := vcl_at hx11
      obtain ⟨hN, -, hnm, hdec, ty, hty, hdf⟩ := clsOK _ _ _ _ hv
      have he := ws_at (b := b) (base := base) (cs := cs) (g := g) hq h2
      rw [celE_o (by omega)] at he
      rw [List.map_cons, List.map_cons, evv_r (by omega)]
      have hF := hS.2.1
      have hS3 := hS.2.2.1
      -- a place that changes
      have go : ∀ (t1 : Nat) (u : Int) (ty1 : FieldType), (jfld x)[y]? = some t1 → parseFieldDescriptor ((vcl x).2.1 y).2.2.1 = some ty1 → ((vcl x).2.1 y).2.2.2 = false → t1 < 3 → narrow ty1 (evv b base (fvl t1 u (q.2.2.getD y 0))) = evv b base (fvl t1 u (q.2.2.getD y 0)) → fits ty1 (evv b base (fvl t1 u (q.2.2.getD y 0))) = true →
          (t1 = 0 → iw u = u) → (t1 = 1 → lw u = u) → (∀ lsA' H' locs', SFc b base L xs D cs s lsA' ls r sh (up g t y u) H' locs' → W p l e R s m args below meth c H' locs' (sh.length - n0) (slt sh - s0) Q (F0 m (pc + 3) lsA' (r.map (evv b base)))) → W p l e R s m args below meth c H locs (sh.length - n0) (slt sh - s0) Q (F0 m pc lsA (evv b base (fvl t1 u (q.2.2.getD y 0)) :: .ref (adr b base t) :: r.map (evv b base))) := by
        intro t1 u ty1 ht1 hpd hfin ht3 hnar hfit k0 k1 k
        have hlt := (List.getElem?_eq_some_iff.mp ht1).1
        refine va_put (C := (vcl x).1) (T := (vcl x).2.1) (N := (vcl x).2.2) (ref := (vcl x).1) hx hb hts (fun w h => hwa w (cls_wA _ _ _ _ hv w h)) ty hty hnm hown hK hS.1 ws_D hS3 (t.toNat - 2) he (by rw [hq1]; exact hv) y (by rw [hN]; exact hlt) (hts _ (hwa _ hw)) (fun u hu => by rw [hdec y (by rw [hN]; exact hlt)] at hu; exact hu) hfin hpd hnar hfit (by rw [fld_len, hq1]; exact hlt) hdg (fun H1 locs1 hP1 _ hS1 => ?_)
        have hpl : plk sh t (y : Int) = t1 := by
          rw [plk_at hq, if_neg (by omega), hq1, Int.toNat_natCast, List.getD_eq_getElem?_getD, ht1]
          rfl
        refine k lsA H1 locs1 ⟨?_, PF_up hF h2 (fun z => k0 (by omega)) (fun z => k1 (by omega)), hS1, hS.lhO, hS.lsO, okS_tail (okS_tail hS.stO)⟩
        rw [ws_mem (g := g) (g' := up g t (y : Int) u) hq h2 (fun a q ha => up_ne ha), celE_o (by omega), fld_put (t := t1) (by rw [hq1]; exact ht1), hq1]
        rw [hq1] at hP1
        exact hP1
      have gf : ∀ (u : Int) (ty1 : FieldType), (jfld x)[y]? = some 3 → parseFieldDescriptor ((vcl x).2.1 y).2.2.1 = some ty1 → ((vcl x).2.1 y).2.2.2 = true → (ynm j).name = "<init>" → ((vcl x).2.1 y).1 = (ynm j).cls → narrow ty1 (evv b base (vR u)) = evv b base (vR u) → fits ty1 (evv b base (vR u)) = true → y < q.2.2.length →
          (∀ lsA' H' locs', SFc b base L xs D cs s lsA' ls r (sh.set t.toNat (q.1, q.2.1, q.2.2.set y u)) g H' locs' → W p l e R s m args below meth c H' locs' ((sh.set t.toNat (q.1, q.2.1, q.2.2.set y u)).length - n0) (slt (sh.set t.toNat (q.1, q.2.1, q.2.2.set y u)) - s0) Q (F0 m (pc + 3) lsA' (r.map (evv b base)))) → W p l e R s m args below meth c H locs (sh.length - n0) (slt sh - s0) Q (F0 m pc lsA (evv b base (vR u) :: .ref (adr b base t) :: r.map (evv b base))) := by
        intro u ty1 ht1 hpd hfin hin1 hin2 hnar hfit hyl k
        have hlt := (List.getElem?_eq_some_iff.mp ht1).1
        refine va_putF (C := (vcl x).1) (T := (vcl x).2.1) (N := (vcl x).2.2) (ref := (vcl x).1) hx hb hts (fun w h => hwa w (cls_wA _ _ _ _ hv w h)) ty hty hnm hown hK hS.1 ws_D hS3 (t.toNat - 2) he (by rw [hq1]; exact hv) y (by rw [hN]; exact hlt) (hts _ (hwa _ hw)) (fun u hu => by rw [hdec y (by rw [hN]; exact hlt)] at hu; exact hu) hfin (hini hin1) hin2 hpd hnar hfit (by rw [fld_len, hq1]; exact hlt) hdg (fun H1 locs1 hP1 _ hS1 => ?_)
        have k2 := k lsA H1 locs1 ⟨?_, PF_set hF hq rfl (by omega), hS1, hS.lhO, hS.lsO, okS_tail (okS_tail hS.stO)⟩
        · rw [List.length_set, slt_set hq (q.1, q.2.1, q.2.2.set y u) rfl] at k2
          exact k2
        · rw [ws_shp (List.getElem?_eq_some_iff.mp hq).1 h2, celE_o (s := (q.1, q.2.1, q.2.2.set y u)) (by show q.1 < 11; omega), fld_fin (by rw [hq1]; exact ht1) hyl]
          exact hP1
      have hqD : sh[t.toNat]?.getD (0, 0, []) = q := by rw [hq]; rfl
      rw [hqD] at h
      cases hs0 : (jfld x)[y]? with
      | none => rw [hs0] at h; simp at h
      | some t1 =>
        rw [hs0] at h hnb
        cases hpd : parseFieldDescriptor ((vcl x).2.1 y).2.2.1 with
        | none => rw [hpd] at hnb; exfalso; revert hnb; split <;> simp_all
        | some ty1 =>
          rw [hpd] at hnb
          match t1, v, h with
          | 0, .inl u, h =>
            simp only [Option.some.injEq, Prod.mk.injEq] at h
            obtain ⟨rfl, rfl, rfl, rfl, rfl⟩ := h
            have e1 : ty1 = .int := by revert hnb; cases ty1 <;> simp
            subst e1
            exact go 0 u .int hs0 hpd (by simpa using hnb) (by omega) rfl rfl (fun _ => okS_head hS.stO) (fun e => by omega) kk
          | 1, .inr (.inl u), h =>
            simp only [Option.some.injEq, Prod.mk.injEq] at h
            obtain ⟨rfl, rfl, rfl, rfl, rfl⟩ := h
            have e1 : ty1 = .long := by revert hnb; cases ty1 <;> simp
            subst e1
            exact go 1 u .long hs0 hpd (by simpa using hnb) (by omega) rfl rfl (fun e => by omega) (fun _ => okS_head hS.stO) kk
          | 2, .inr (.inr (.inl u)), h =>
            simp only [Option.some.injEq, Prod.mk.injEq] at h
            obtain ⟨rfl, rfl, rfl, rfl, rfl⟩ := h
            have e1 : (∃ C, ty1 = .object C) ∨ ∃ t, ty1 = .array t := by revert hnb; cases ty1 <;> simp
            have e2 : ((vcl x).2.1 y).2.2.2 = false := by rcases e1 with ⟨C, rfl⟩ | ⟨C, rfl⟩ <;> simpa using hnb
            exact go 2 u ty1 hs0 hpd e2 (by omega) (rf_fit e1 _).1 (rf_fit e1 _).2 (fun e => by omega) (fun e => by omega) kk
          | 3, .inr (.inr (.inl u)), h =>
            have h : (if y < q.2.2.length then some (pc + 3, ls, r, sh.set t.toNat (q.1, q.2.1, q.2.2.set y u), g) else none) = some (pc1, ls', st', sh', g') := h
            split at h
            · rename_i hyl
              simp only [Option.some.injEq, Prod.mk.injEq] at h
              obtain ⟨rfl, rfl, rfl, rfl, rfl⟩ := h
              have e1 : (∃ C, ty1 = .object C) ∨ ∃ t, ty1 = .array t := by revert hnb; cases ty1 <;> simp
              have e2 : ((vcl x).2.1 y).2.2.2 = true ∧ (ynm j).name = "<init>" ∧ ((vcl x).2.1 y).1 = (ynm j).cls := by rcases e1 with ⟨C, rfl⟩ | ⟨C, rfl⟩ <;> simpa using hnb
              exact gf u ty1 hs0 hpd e2.1 e2.2.1 e2.2.2 (rf_fit e1 _).1 (rf_fit e1 _).2 hyl kk
            · cases h
          | 0, .inr _, h => simp at h
          | 1, .inl _, h => simp at h
          | 1, .inr (.inr _), h => simp at h
          | 2, .inl _, h => simp at h
          | 2, .inr (.inl _), h => simp at h
          | 2, .inr (.inr (.inr _)), h => simp at h
          | 3, .inl _, h => simp at h
          | 3, .inr (.inl _), h => simp at h
          | 3, .inr (.inr (.inr _)), h => simp at h
          | t1 + 4, _, h => simp at h
    · cases h
  · cases h
end SNH
