section SND2
variable {p : Program} {l : Launch} {e : Env} {R : Room} {s : State} {m : MethodId} {args : Array Value} {below : List Frame} {meth : Method} {c : Code} {Q : State → Prop}
variable {b base L j n0 s0 : Nat} {xs : Nat → Int32} {D : va_G} {cs : Nat → ClassId} {Ts : List Cond} {pc pc1 x y len : Nat} {z : Int} {ls ls' st st' : List AVal} {sh sh' : List AShp} {g g' : AMem} {lsA : Array Slot} {H : Heap} {locs : List Loc}
theorem sr_one (h : a_lcmp (pc + 1) ls st sh g = some (pc1, ls', st', sh', g')) (hS : SFc b base L xs D cs s lsA ls st sh g H locs)
    (row : ∀ (x y : Int64) (r : List Value), W p l e R s m args below meth c H locs (sh.length - n0) (slt sh - s0) Q (F0 m (pc + 1) lsA (.int (lg_cmp x y) :: r)) → W p l e R s m args below meth c H locs (sh.length - n0) (slt sh - s0) Q (F0 m pc lsA (.long y :: .long x :: r)))
    (kk : ∀ lsA' H' locs', SFc b base L xs D cs s lsA' ls' st' sh' g' H' locs' → W p l e R s m args below meth c H' locs' (sh'.length - n0) (slt sh' - s0) Q (F0 m pc1 lsA' (st'.map (evv b base)))) : W p l e R s m args below meth c H locs (sh.length - n0) (slt sh - s0) Q (F0 m pc lsA (st.map (evv b base))) := by
  unfold a_lcmp at h
  split at h
  · rename_i y x r
    cases h
    have hy : lw y = y := okS_head hS.stO
    have hx : lw x = x := okS_head (okS_tail hS.stO)
    refine row (Int64.ofInt x) (Int64.ofInt y) (r.map (evv b base)) ?_
    rw [← ofL_cmp hx hy]
    refine kk lsA H locs (hS.stk (okS_cons (show iw _ = _ from ?_) (okS_tail (okS_tail hS.stO))))
    split
    · decide +kernel
    · split <;> decide +kernel
  · cases h
theorem cat_1 {v : AVal} (h : ac1 v = true) : (evv b base v).category = 1 := by rw [evv_cat, if_pos h]
theorem snd_stp {ins : Instr} (hC : Cxt b base L xs D cs j n0 Ts p R s m args meth c) (hml : c.maxLocals = ls.length) (hr : rok j (pc, ins, len, x, y, z)) (hk0 : akd ins x = 0)
    (h : stp ins x y z pc ls st sh g = some (pc1, ls', st', sh', g')) (hS : SFc b base L xs D cs s lsA ls st sh g H locs) (hn : n0 ≤ sh.length) (hs0 : s0 ≤ slt sh) (hR1 : sh'.length - n0 ≤ R.cells) (hR2 : slt sh' - s0 ≤ R.slots)
    (kk : ∀ lsA' H' locs', SFc b base L xs D cs s lsA' ls' st' sh' g' H' locs' → W p l e R s m args below meth c H' locs' (sh'.length - n0) (slt sh' - s0) Q (F0 m pc1 lsA' (st'.map (evv b base)))) : W p l e R s m args below meth c H locs (sh.length - n0) (slt sh - s0) Q (F0 m pc lsA (st.map (evv b base))) := by
  obtain ⟨hdg, hnb, hww⟩ := hr
  dsimp only at hdg hnb hww
  have hx := hC.1
  have hb := hC.2.1
  have hown := hC.2.2.1
  have hts := hC.2.2.2.1
  have hwa := hC.2.2.2.2.1
  cases ins
  case iconst n =>
    simp only [nBool, decide_eq_true_eq] at hnb
    obtain ⟨rfl, hnb⟩ := hnb
    cases h
    exact sr_push (v := vI n) rfl hnb hS (fun k => lv_iconst hx hb hdg rfl k) kk
  case bipush n =>
    simp only [nBool, decide_eq_true_eq] at hnb
    obtain ⟨rfl, hnb⟩ := hnb
    cases h
    exact sr_push (v := vI n) rfl hnb.2 hS (fun k => lv_bipush hx hb hdg hnb.1 k) kk
  case sipush n =>
    simp only [nBool, decide_eq_true_eq] at hnb
    obtain ⟨rfl, hnb⟩ := hnb
    cases h
    exact sr_push (v := vI n) rfl hnb.2 hS (fun k => lv_sipush hx hb hdg hnb.1 k) kk
  case ldc i =>
    simp only [nBool, decide_eq_true_eq] at hnb
    obtain ⟨rfl, hnb⟩ := hnb
    cases h
    exact sr_push (v := vI z) rfl hnb hS (fun k => lv_ldc hx hb hown (hts _ (hwa _ (hww _ (by simp [nWords])))) hdg k) kk
  case ldc2_w i =>
    simp only [nBool, decide_eq_true_eq] at hnb
    obtain ⟨rfl, hnb⟩ := hnb
    cases h
    exact sr_push (v := vL z) rfl hnb hS (fun k => lv_ldc2 hx hb hown (hts _ (hwa _ (hww _ (by simp [nWords])))) hdg k) kk
  case lconst n =>
    simp only [nBool, decide_eq_true_eq] at hnb
    obtain ⟨rfl, hnb⟩ := hnb
    cases h
    refine sr_push (v := vL (n : Nat)) rfl ?_ hS (fun k => lv_lconst hx hb hdg hnb k) kk
    show lw _ = _
    exact lw_id (by omega) (by omega)
  case iload_n n =>
    simp only [nBool, decide_eq_true_eq] at hnb
    subst hnb
    exact sr_ldI h hS (fun x hl k => lv_iload_n hx hb hdg rfl hl k) kk
  case iload n =>
    simp only [nBool, decide_eq_true_eq] at hnb
    subst hnb
    exact sr_ldI h hS (fun x hl k => lv_iload hx hb hdg hl k) kk
  case lload_n n =>
    simp only [nBool, decide_eq_true_eq] at hnb
    subst hnb
    exact sr_ldL h hS (fun x hl k => lv_lload_n hx hb hdg rfl hl k) kk
  case lload n =>
    simp only [nBool, decide_eq_true_eq] at hnb
    subst hnb
    exact sr_ldL h hS (fun x hl k => lv_lload hx hb hdg hl k) kk
  case aload_n n =>
    simp only [nBool, decide_eq_true_eq] at hnb
    subst hnb
    exact sr_ldR h hS (fun x hl k => lv_aload_n hx hb hdg rfl hl k) kk
  case aload n =>
    simp only [nBool, decide_eq_true_eq] at hnb
    subst hnb
    exact sr_ldR h hS (fun x hl k => lv_aload hx hb hdg hl k) kk
  case istore_n n =>
    simp only [nBool, decide_eq_true_eq] at hnb
    subst hnb
    exact sr_stI h hS (fun x r hl hi k => lv_istore_n hx hb hdg rfl hl hi rfl k) kk
  case istore n =>
    simp only [nBool, decide_eq_true_eq] at hnb
    subst hnb
    exact sr_stI h hS (fun x r hl hi k => lv_istore hx hb hdg hl hi rfl k) kk
  case lstore_n n =>
    simp only [nBool, decide_eq_true_eq] at hnb
    subst hnb
    exact sr_stL h hS (fun x r hl hi k => lv_lstore_n hx hb hdg rfl hl hi rfl k) kk
  case lstore n =>
    simp only [nBool, decide_eq_true_eq] at hnb
    subst hnb
    exact sr_stL h hS (fun x r hl hi k => lv_lstore hx hb hdg hl hi rfl k) kk
  case astore_n n =>
    simp only [nBool, decide_eq_true_eq] at hnb
    subst hnb
    exact sr_stR h hS (fun x r hl hi k => lv_astore_n hx hb hdg rfl hl hi rfl k) kk
  case astore n =>
    simp only [nBool, decide_eq_true_eq] at hnb
    subst hnb
    exact sr_stR h hS (fun x r hl hi k => lv_astore hx hb hdg hl hi rfl k) kk
  case iinc i n =>
    simp only [nBool, decide_eq_true_eq] at hnb
    subst hnb
    change a_inc i n (pc + 3) ls st sh g = _ at h
    unfold a_inc at h
    split at h
    · rename_i x0 hx0
      split at h
      · rename_i hk
        cases h
        have hi := (List.getElem?_eq_some_iff.mp hx0).1
        obtain ⟨k0, hk1⟩ := List.getElem?_of_mem (lvl_mem (b := b) (base := base) hx0 rfl)
        refine lv_iinc (v := Int32.ofInt (iw (x0 + n))) hx hb hdg hS.lhO.has hk1 (by rw [ofI_iw, Int32.ofInt_add]) hi rfl (fun ls1 h2 => ?_)
        exact kk ls1 H locs (hS.lcl (lh_set1 (lsA := lsA) (v := vI (iw (x0 + n))) hi hk h2) (okS_set (iw_iw _) hS.lsO) hS.stO)
      · cases h
    · cases h
  case iadd =>
    simp only [nBool, decide_eq_true_eq] at hnb
    subst hnb
    exact sr_bi (fr := fun x y => x + y) h hS (fun x y _ _ => ofI_add x y) (fun x y => iw_iw _) (fun x y r _ k => lv_iadd hx hb hdg k) kk
  case isub =>
    simp only [nBool, decide_eq_true_eq] at hnb
    subst hnb
    exact sr_bi (fr := fun x y => x - y) h hS (fun x y _ _ => ofI_sub x y) (fun x y => iw_iw _) (fun x y r _ k => lv_isub hx hb hdg k) kk
  case imul =>
    simp only [nBool, decide_eq_true_eq] at hnb
    subst hnb
    exact sr_bi (fr := fun x y => x * y) h hS (fun x y _ _ => ofI_mul x y) (fun x y => iw_iw _) (fun x y r _ k => lv_imul hx hb hdg k) kk
  case idiv =>
    simp only [nBool, decide_eq_true_eq] at hnb
    subst hnb
    exact sr_bi (fr := fun x y => x / y) h hS (fun x y h1 h2 => ofI_div h1 h2) (fun x y => iw_iw _) (fun x y r hne k => lv_idiv hx hb hdg (hne rfl) k) kk
  case irem =>
    simp only [nBool, decide_eq_true_eq] at hnb
    subst hnb
    exact sr_bi (fr := fun x y => x - x / y * y) h hS (fun x y h1 h2 => ofI_rem h1 h2) (fun x y => iw_iw _) (fun x y r hne k => lv_irem hx hb hdg (hne rfl) k) kk
  case iand =>
    simp only [nBool, decide_eq_true_eq] at hnb
    subst hnb
    exact sr_bi (fr := fun x y => x &&& y) h hS (fun x y _ _ => Int32.ofInt_toInt _) (fun x y => iw_toInt _) (fun x y r _ k => lv_iand hx hb hdg k) kk
  case ishr =>
    simp only [nBool, decide_eq_true_eq] at hnb
    subst hnb
    exact sr_bi (fr := fun x y => x >>> (y &&& 31)) h hS (fun x y _ _ => Int32.ofInt_toInt _) (fun x y => iw_toInt _) (fun x y r _ k => lv_ishr hx hb hdg k) kk
  case ladd =>
    simp only [nBool, decide_eq_true_eq] at hnb
    subst hnb
    exact sr_bl (fr := fun x y => x + y) h hS (fun x y _ _ => ofL_add x y) (fun x y => lw_lw _) (fun x y r _ k => lv_ladd hx hb hdg k) kk
  case lmul =>
    simp only [nBool, decide_eq_true_eq] at hnb
    subst hnb
    exact sr_bl (fr := fun x y => x * y) h hS (fun x y _ _ => ofL_mul x y) (fun x y => lw_lw _) (fun x y r _ k => lv_lmul hx hb hdg k) kk
  case ldiv =>
    simp only [nBool, decide_eq_true_eq] at hnb
    subst hnb
    exact sr_bl (fr := fun x y => x / y) h hS (fun x y h1 h2 => ofL_div h1 h2) (fun x y => lw_lw _) (fun x y r hne k => lv_ldiv hx hb hdg (hne rfl) k) kk
  case lrem =>
    simp only [nBool, decide_eq_true_eq] at hnb
    subst hnb
    exact sr_bl (fr := fun x y => x - x / y * y) h hS (fun x y h1 h2 => ofL_rem h1 h2) (fun x y => lw_lw _) (fun x y r hne k => lv_lrem hx hb hdg (hne rfl) k) kk
  case lcmp =>
    simp only [nBool, decide_eq_true_eq] at hnb
    subst hnb
    exact sr_one h hS (fun x y r k => W.lcmp hx hb hdg k) kk
  case i2l =>
    simp only [nBool, decide_eq_true_eq] at hnb
    subst hnb
    change a_i2l (pc + 1) ls st sh g = _ at h
    unfold a_i2l at h
    split at h
    · rename_i x0 r
      cases h
      have h0 : iw x0 = x0 := okS_head hS.stO
      exact lv_i2l hx hb hdg (i2l_of h0) (kk lsA H locs (hS.stk (okS_cons (lw_of_iw h0) (okS_tail hS.stO))))
    · cases h
  case l2i =>
    simp only [nBool, decide_eq_true_eq] at hnb
    subst hnb
    change a_l2i (pc + 1) ls st sh g = _ at h
    unfold a_l2i at h
    split at h
    · rename_i x0 r
      cases h
      exact lv_l2i hx hb hdg (l2i_of x0) (kk lsA H locs (hS.stk (okS_cons (iw_iw _) (okS_tail hS.stO))))
    · cases h
  case dup =>
    simp only [nBool, decide_eq_true_eq] at hnb
    subst hnb
    change a_dup (pc + 1) ls st sh g = _ at h
    unfold a_dup at h
    split at h
    · rename_i v r
      split at h
      · rename_i hv
        cases h
        exact lv_dup hx hb hdg (cat_1 hv) (kk lsA H locs (hS.stk (okS_cons (okS_head hS.stO) hS.stO)))
      · cases h
    · cases h
  case dup2 =>
    simp only [nBool, decide_eq_true_eq] at hnb
    subst hnb
    change a_dup2 (pc + 1) ls st sh g = _ at h
    unfold a_dup2 at h
    split at h
    · rename_i v w r
      split at h
      · rename_i hv
        cases h
        exact lv_dup2_11 hx hb hdg (cat_1 hv.1) (cat_1 hv.2) (kk lsA H locs (hS.stk (okS_cons (okS_head hS.stO) (okS_cons (okS_head (okS_tail hS.stO)) hS.stO))))
      · cases h
    · cases h
  case pop =>
    simp only [nBool, decide_eq_true_eq] at hnb
    subst hnb
    change a_pop (pc + 1) ls st sh g = _ at h
    unfold a_pop at h
    split at h
    · rename_i v r
      split at h
      · rename_i hv
        cases h
        exact lv_pop hx hb hdg (cat_1 hv) (kk lsA H locs (hS.stk (okS_tail hS.stO)))
      · cases h
    · cases h
  case ifCond cn o =>
    simp only [nBool, decide_eq_true_eq] at hnb
    obtain ⟨rfl, hnb⟩ := hnb
    have ht : (pc : Int) + o = ((((pc : Int) + o).toNat : Nat) : Int) := by omega
    cases cn
    case eq => exact sr_if h hS (fun x r hxx k1 k2 => lv_if_eq hx hb hdg ht (fun e => k1 ((z_eq hxx).mp e)) (fun e => k2 (fun q => e ((z_eq hxx).mpr q)))) kk
    case ne => exact sr_if h hS (fun x r hxx k1 k2 => lv_if_ne hx hb hdg ht (fun e => k1 (fun q => e ((z_eq hxx).mpr q))) (fun e => k2 (fun q => q ((z_eq hxx).mp e)))) kk
    case lt => exact sr_if h hS (fun x r hxx k1 k2 => lv_if_lt hx hb hdg ht (fun e => k1 ((z_lt hxx).mp e)) (fun e => k2 (fun q => e ((z_lt hxx).mpr q)))) kk
    case ge => exact sr_if h hS (fun x r hxx k1 k2 => lv_if_ge hx hb hdg ht (fun e => k1 ((z_ge hxx).mp e)) (fun e => k2 (fun q => e ((z_ge hxx).mpr q)))) kk
    case gt => exact sr_if h hS (fun x r hxx k1 k2 => lv_if_gt hx hb hdg ht (fun e => k1 ((z_gt hxx).mp e)) (fun e => k2 (fun q => e ((z_gt hxx).mpr q)))) kk
    case le => exact sr_if h hS (fun x r hxx k1 k2 => lv_if_le hx hb hdg ht (fun e => k1 ((z_le hxx).mp e)) (fun e => k2 (fun q => e ((z_le hxx).mpr q)))) kk
  case if_icmp cn o =>
    simp only [nBool, decide_eq_true_eq] at hnb
    obtain ⟨rfl, hnb⟩ := hnb
    have ht : (pc : Int) + o = ((((pc : Int) + o).toNat : Nat) : Int) := by omega
    cases cn
    case eq => exact sr_ic h hS (fun x y r hxx hyy k1 k2 => lv_icmp_eq hx hb hdg ht (fun e => k1 ((ofI_inj hxx hyy).mp e)) (fun e => k2 (fun q => e ((ofI_inj hxx hyy).mpr q)))) kk
    case ne => exact sr_ic h hS (fun x y r hxx hyy k1 k2 => lv_icmp_ne hx hb hdg ht (fun e => k1 (fun q => e ((ofI_inj hxx hyy).mpr q))) (fun e => k2 (fun q => q ((ofI_inj hxx hyy).mp e)))) kk
    case lt => exact sr_ic h hS (fun x y r hxx hyy k1 k2 => lv_icmp_lt hx hb hdg ht (fun e => k1 ((ofI_lt hxx hyy).mp e)) (fun e => k2 (fun q => e ((ofI_lt hxx hyy).mpr q)))) kk
    case ge => exact sr_ic h hS (fun x y r hxx hyy k1 k2 => lv_icmp_ge hx hb hdg ht (fun e => k1 ((ofI_le hyy hxx).mp e)) (fun e => k2 (fun q => e ((ofI_le hyy hxx).mpr q)))) kk
    case gt => exact sr_ic h hS (fun x y r hxx hyy k1 k2 => lv_icmp_gt hx hb hdg ht (fun e => k1 ((ofI_lt hyy hxx).mp e)) (fun e => k2 (fun q => e ((ofI_lt hyy hxx).mpr q)))) kk
    case le => exact sr_ic h hS (fun x y r hxx hyy k1 k2 => lv_icmp_le hx hb hdg ht (fun e => k1 ((ofI_le hxx hyy).mp e)) (fun e => k2 (fun q => e ((ofI_le hxx hyy).mpr q)))) kk
  case goto o =>
    simp only [nBool, decide_eq_true_eq] at hnb
    obtain ⟨rfl, hnb⟩ := hnb
    cases h
    exact lv_goto hx hb hdg (tgt := ((pc : Int) + o).toNat) (by omega) (kk lsA H locs hS)
  case tableswitch d lo hi os =>
    change a_tsw d lo hi os pc ls st sh g = _ at h
    unfold a_tsw at h
    split at h
    · rename_i x0 r
      have h0 : iw x0 = x0 := okS_head hS.stO
      split at h
      · rename_i hd
        split at h
        · cases h
          exact lv_tableOut hx hb hdg (by rw [toI_of h0]; exact hd) (by omega) (kk lsA H locs (hS.stk (okS_tail hS.stO)))
        · cases h
      · rename_i hd
        split at h
        · rename_i of1 hof
          split at h
          · cases h
            exact lv_tableIn (off := of1) hx hb hdg (by rw [toI_of h0]; omega) (by rw [toI_of h0]; omega) (by rw [toI_of h0]; exact hof) (by omega) (kk lsA H locs (hS.stk (okS_tail hS.stO)))
          · cases h
        · cases h
    · cases h
  case lookupswitch d ps =>
    simp only [nBool] at hnb
    change a_lsw d ps pc ls st sh g = _ at h
    unfold a_lsw at h
    split at h
    · rename_i x0 r
      have h0 : iw x0 = x0 := okS_head hS.stO
      split at h
      · cases h
        exact lv_lookup hx hb hdg hnb (by rw [toI_of h0]) (by omega) (kk lsA H locs (hS.stk (okS_tail hS.stO)))
      · cases h
    · cases h
  case getfield i =>
    simp only [nBool, decide_eq_true_eq] at hnb
    obtain ⟨rfl, hnb⟩ := hnb
    exact sr_getf hC hdg hnb (hww _ (by simp [nWords])) h hS kk
  case putfield i =>
    simp only [nBool, Bool.and_eq_true, decide_eq_true_eq] at hnb
    obtain ⟨⟨rfl, hnx⟩, hnb⟩ := hnb
    refine sr_putf hC hdg hnx (hww _ (by simp [nWords])) ?_ h hS kk
    revert hnb
    split <;> simp_all
  case new i =>
    simp only [nBool, decide_eq_true_eq] at hnb
    obtain ⟨rfl, hnb⟩ := hnb
    exact sr_new hC hdg hnb ⟨hww _ (by simp [nWords]), hww _ (by simp [nWords]), hww _ (by simp [nWords])⟩ h hS hn hs0 hR1 hR2 kk
  case newarray t =>
    simp only [nBool, decide_eq_true_eq] at hnb
    subst hnb
    cases t
    case int => exact sr_newi hC hdg (hww _ (by simp [nWords])) h hS hn hs0 hR1 hR2 kk
    case boolean => exact sr_newz hC hdg (hww _ (by simp [nWords])) h hS hn hs0 hR1 hR2 kk
    all_goals exact absurd h (by simp [stp])
  case anewarray i =>
    simp only [nBool, decide_eq_true_eq] at hnb
    subst hnb
    change (if x = 22 ∨ x = 23 then a_newq x (pc + 3) ls st sh g else none) = _ at h
    split at h
    · rename_i hxx
      exact sr_newq hC hdg hxx (hww _ (by simp [nWords])) h hS hn hs0 hR1 hR2 kk
    · cases h
  case iaload =>
    simp only [nBool, decide_eq_true_eq] at hnb
    subst hnb
    exact sr_iald hC hdg h hS kk
  case iastore =>
    simp only [nBool, decide_eq_true_eq] at hnb
    subst hnb
    exact sr_iast hC hdg h hS kk
  case baload =>
    simp only [nBool, decide_eq_true_eq] at hnb
    subst hnb
    exact sr_bald hC hdg h hS kk
  case bastore =>
    simp only [nBool, decide_eq_true_eq] at hnb
    subst hnb
    exact sr_bast hC hdg h hS kk
  case aaload =>
    simp only [nBool, decide_eq_true_eq] at hnb
    subst hnb
    exact sr_aald hC hdg h hS kk
  case aastore =>
    simp only [nBool, decide_eq_true_eq] at hnb
    subst hnb
    exact sr_aast hC hdg h hS kk
  case arraylength =>
    simp only [nBool, decide_eq_true_eq] at hnb
    subst hnb
    exact sr_alen hC hdg h hS kk
  case invokespecial i =>
    have hxx : x = 1000 := by
      by_cases q : x = 1000
      · exact q
      · simp [akd, q] at hk0
    subst hxx
    simp only [nBool, Bool.and_eq_true, decide_eq_true_eq, if_true] at hnb
    obtain ⟨rfl, hnb⟩ := hnb
    exact sr_obj hC hml hdg ⟨hww _ (by simp [nWords]), hww _ (by simp [nWords]), hww _ (by simp [nWords])⟩ (by simpa using hnb) h hS kk
  case invokestatic i =>
    have hxx : 1001 ≤ x := by
      by_cases q : 1001 ≤ x
      · exact q
      · simp [akd, q] at hk0
    simp only [nBool, Bool.and_eq_true, decide_eq_true_eq, hxx, if_true] at hnb
    obtain ⟨rfl, hnb⟩ := hnb
    change (if x = 1001 then a_acpy (pc + 3) ls st sh g else a_mm (x == 1002) (pc + 3) ls st sh g) = _ at h
    split at h
    · rename_i q
      subst q
      exact sr_acpy hC hml hdg ⟨hww _ (by simp [nWords]), hww _ (by simp [nWords]), hww _ (by simp [nWords]), hww _ (by simp [nWords])⟩ (by simpa using hnb) h hS kk
    · rename_i q
      refine sr_mm hC hml hdg ?_ (by simpa using hnb) h hS hR1 hR2 kk
      by_cases q2 : x = 1002
      · subst q2
        rw [if_pos (by decide)]
        exact ⟨hww _ (by simp [nWords]), hww _ (by simp [nWords]), hww _ (by simp [nWords]), hww _ (by simp [nWords])⟩
      · rw [if_neg (by simpa using q2)]
        exact ⟨hww _ (by simp [nWords, q, q2, hxx]), hww _ (by simp [nWords, q, q2, hxx]), hww _ (by simp [nWords, q, q2, hxx]), hww _ (by simp [nWords, q, q2, hxx])⟩
  all_goals exact absurd h (by intro q; cases q)
end SND2
