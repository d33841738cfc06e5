theorem k2 {L c : Nat} {t : Int} (h : kin (SH L) t = c) (hc : c < 90) : 2 ≤ t := by
  obtain ⟨_, _, _, h2⟩ := kin_of h hc
  exact h2
theorem kB20 {L : Nat} {t : Int} (h : kin (SH L) t = 0) : kin (SH L) (t + 1) = 20 := by
  obtain ⟨k, hk, e, h1⟩ := kin_k h (by decide) (by decide)
  have hf := sFact_all k hk
  unfold sFact at hf
  rw [h1] at hf
  simp at hf
  rw [kin_at (k := k + 1) (by omega) (nxt hk (by rw [hf.2]; decide)), hf.2]
theorem kE20 {L : Nat} {t : Int} (h : kin (SH L) t = 2) : kin (SH L) (t + 1) = 20 := by
  obtain ⟨k, hk, e, h1⟩ := kin_k h (by decide) (by decide)
  have hf := sFact_all k hk
  unfold sFact at hf
  rw [h1] at hf
  simp at hf
  rw [kin_at (k := k + 1) (by omega) (nxt hk (by rw [hf.2]; decide)), hf.2]
theorem hy4 {x y : Nat} {st : List AVal} {sh : List AShp} (h1 : Nat.ble y st.length = true) (h2 : Nat.ble (awg (st.drop y)) 8 = true) (h3 : a_rcv (mtd x) sh (st.take y).reverse = true) (h4 : Nat.ble (aent (st.take y).reverse).length (mtd x).2.1 = true) : y ≤ st.length ∧ awg (st.drop y) ≤ 8 ∧ a_rcv (mtd x) sh (st.take y).reverse = true ∧ (aent (st.take y).reverse).length ≤ (mtd x).2.1 :=
  ⟨Nat.le_of_ble_eq_true h1, Nat.le_of_ble_eq_true h2, h3, Nat.le_of_ble_eq_true h4⟩
theorem rcv0 {x : Nat} {sh : List AShp} {t : Int} {l : List AVal} (h : (mtd x).2.2.2.2.2.2 = 0) (hk : kin sh t = (mtd x).1) : a_rcv (mtd x) sh (vR t :: l) = true := by
  unfold a_rcv
  rw [h]
  exact decide_eq_true hk
theorem e_top {ins : Instr} {x y pc : Nat} {z u v : Int} {ls st : List AVal} {sh : List AShp} {g : AMem} {r : Option ACfg} (e : u = v) (h : stp ins x y z pc ls (vI v :: st) sh g = r) : stp ins x y z pc ls (vI u :: st) sh g = r := by
  subst e
  exact h
theorem e_tsw {d lo hi z u : Int} {os : Array Int} {x y pc : Nat} {ls st : List AVal} {sh : List AShp} {g : AMem} (h : u < lo ∨ hi < u) (h0 : 0 ≤ (pc : Int) + d) : stp (.tableswitch d lo hi os) x y z pc ls (vI u :: st) sh g = some (((pc : Int) + d).toNat, ls, st, sh, g) := by
  show a_tsw d lo hi os pc ls (vI u :: st) sh g = _
  unfold a_tsw
  dsimp only
  rw [if_pos h, if_pos h0]
theorem e_lsw2 {d z u k1 k2 o1 o2 : Int} {x y pc pc' : Nat} {ls st : List AVal} {sh : List AShp} {g : AMem} (h1 : ¬ u = k1) (h2 : ¬ u = k2) (h0 : 0 ≤ (pc : Int) + d := by decide) (ht : ((pc : Int) + d).toNat = pc' := by rfl) : stp (.lookupswitch d #[(k1, o1), (k2, o2)]) x y z pc ls (vI u :: st) sh g = some (pc', ls, st, sh, g) := by
  show a_lsw d _ pc ls (vI u :: st) sh g = _
  subst ht
  unfold a_lsw
  have e : Op.lookupswitch.offset [(k1, o1), (k2, o2)] d u = d := by
    simp [Op.lookupswitch.offset, h1, h2, Ne.symm h1, Ne.symm h2, beq_eq_false_iff_ne]
  dsimp only
  rw [e, if_pos h0]
section QR2
variable {β : Type} {T : Option ARes → Option β} {j pc pc' len x y i : Nat} {z : Int} {ls ls' st : List AVal} {sh : List AShp} {g : AMem} {X : Option β}
theorem q_ldR_n {k : Fin 4} {v : Int} (hc : look (codL j) pc = some (.aload_n k, len, x, y, z)) (hl : ls[(k : Nat)]? = some (vR v)) (hp : pc + 1 = pc') (hv : 1 ≤ v) (kk : T (RF j pc' ls (vR v :: st) sh g) = X) : T (RF j pc ls st sh g) = X := by
  subst hp
  refine q_s hc rfl ?_ kk
  show a_ldR k (pc + 1) ls st sh g = _
  unfold a_ldR
  rw [hl]
  exact if_pos hv
theorem q_ldR_i {v : Int} (hc : look (codL j) pc = some (.aload i, len, x, y, z)) (hl : ls[i]? = some (vR v)) (hp : pc + 2 = pc') (hv : 1 ≤ v) (kk : T (RF j pc' ls (vR v :: st) sh g) = X) : T (RF j pc ls st sh g) = X := by
  subst hp
  refine q_s hc rfl ?_ kk
  show a_ldR i (pc + 2) ls st sh g = _
  unfold a_ldR
  rw [hl]
  exact if_pos hv
theorem q_stR_n {k : Fin 4} {v : Int} (hc : look (codL j) pc = some (.astore_n k, len, x, y, z)) (hl : Nat.blt k ls.length = true) (ho : okst ls k = true) (hp : pc + 1 = pc') (hv : 1 ≤ v) (hs : ls.set k (vR v) = ls') (kk : T (RF j pc' ls' st sh g) = X) : T (RF j pc ls (vR v :: st) sh g) = X := by
  subst hp
  subst hs
  refine q_s hc rfl ?_ kk
  show a_stR k (pc + 1) ls (vR v :: st) sh g = _
  unfold a_stR
  exact if_pos ⟨Nat.le_of_ble_eq_true hl, ho, hv⟩
theorem q_stR_i {v : Int} (hc : look (codL j) pc = some (.astore i, len, x, y, z)) (hl : Nat.blt i ls.length = true) (ho : okst ls i = true) (hp : pc + 2 = pc') (hv : 1 ≤ v) (hs : ls.set i (vR v) = ls') (kk : T (RF j pc' ls' st sh g) = X) : T (RF j pc ls (vR v :: st) sh g) = X := by
  subst hp
  subst hs
  refine q_s hc rfl ?_ kk
  show a_stR i (pc + 2) ls (vR v :: st) sh g = _
  unfold a_stR
  exact if_pos ⟨Nat.le_of_ble_eq_true hl, ho, hv⟩
theorem q_idiv {u v : Int} (hT : T none = none) (hc : look (codL j) pc = some (.idiv, len, x, y, z)) (hp : pc + 1 = pc') (k : ¬ v = 0 → T (RF j pc' ls (vI (iw (u.tdiv v)) :: st) sh g) = X) : T (RF j pc ls (vI v :: vI u :: st) sh g) = if v = 0 then none else X := by
  subst hp
  by_cases h : v = 0
  · rw [if_pos h]
    refine q_n hT hc rfl ?_
    show a_bi true (fun x y => iw (x.tdiv y)) (pc + 1) ls (vI v :: vI u :: st) sh g = _
    simp [a_bi, h]
  · rw [if_neg h]
    refine q_s hc rfl ?_ (k h)
    show a_bi true (fun x y => iw (x.tdiv y)) (pc + 1) ls (vI v :: vI u :: st) sh g = _
    simp [a_bi, h]
theorem q_irem {u v : Int} (hT : T none = none) (hc : look (codL j) pc = some (.irem, len, x, y, z)) (hp : pc + 1 = pc') (k : ¬ v = 0 → T (RF j pc' ls (vI (iw (u - u.tdiv v * v)) :: st) sh g) = X) : T (RF j pc ls (vI v :: vI u :: st) sh g) = if v = 0 then none else X := by
  subst hp
  by_cases h : v = 0
  · rw [if_pos h]
    refine q_n hT hc rfl ?_
    show a_bi true (fun x y => iw (x - x.tdiv y * y)) (pc + 1) ls (vI v :: vI u :: st) sh g = _
    simp [a_bi, h]
  · rw [if_neg h]
    refine q_s hc rfl ?_ (k h)
    show a_bi true (fun x y => iw (x - x.tdiv y * y)) (pc + 1) ls (vI v :: vI u :: st) sh g = _
    simp [a_bi, h]
theorem q_lrem {u v : Int} (hT : T none = none) (hc : look (codL j) pc = some (.lrem, len, x, y, z)) (hp : pc + 1 = pc') (k : ¬ v = 0 → T (RF j pc' ls (vL (lw (u - u.tdiv v * v)) :: st) sh g) = X) : T (RF j pc ls (vL v :: vL u :: st) sh g) = if v = 0 then none else X := by
  subst hp
  by_cases h : v = 0
  · rw [if_pos h]
    refine q_n hT hc rfl ?_
    show a_bl true (fun x y => lw (x - x.tdiv y * y)) (pc + 1) ls (vL v :: vL u :: st) sh g = _
    simp [a_bl, h]
  · rw [if_neg h]
    refine q_s hc rfl ?_ (k h)
    show a_bl true (fun x y => lw (x - x.tdiv y * y)) (pc + 1) ls (vL v :: vL u :: st) sh g = _
    simp [a_bl, h]
theorem q_acpy {s d n N : Int} (hT : T none = none) (hc : look (codL j) pc = some (.invokestatic i, len, 1001, y, z)) (hs : kin sh s = 20) (hd : kin sh d = 20) (ha : aln sh s = N) (hb : aln sh d = N) (hp : pc + 3 = pc') (k : 0 ≤ n ∧ n ≤ N → T (RF j pc' ls [] sh (cpy g s 0 d 0 n)) = X) : T (RF j pc ls [vI n, vI 0, vR d, vI 0, vR s] sh g) = if 0 ≤ n ∧ n ≤ N then X else none := by
  subst hp
  by_cases h : 0 ≤ n ∧ n ≤ N
  · rw [if_pos h]
    refine q_s hc rfl ?_ (k h)
    show a_acpy (pc + 3) ls [vI n, vI 0, vR d, vI 0, vR s] sh g = _
    unfold a_acpy
    dsimp only
    rw [if_pos ⟨by omega, by omega, h.1, by omega, by omega, hs, hd, rfl⟩]
  · rw [if_neg h]
    refine q_n hT hc rfl ?_
    show a_acpy (pc + 3) ls [vI n, vI 0, vR d, vI 0, vR s] sh g = _
    unfold a_acpy
    dsimp only
    rw [if_neg (fun q => h ⟨q.2.2.1, by omega⟩)]
theorem q_er {v : Int} (hc : look (codL j) pc = some (.areturn, len, x, y, z)) (h4 : (mtd j).2.2.1 = 4) (hv : 1 ≤ v) (k : T (some ([vR v], sh, g)) = X) : T (RF j pc ls [vR v] sh g) = X := by
  refine q_e hc rfl ?_ k
  rw [h4]
  show (if 1 ≤ v then some [vR v] else none) = _
  exact if_pos hv
end QR2
theorem hq_1 : qM 1 = true ∧ 1 < nmeth ∧ ((mtd 1).2.2.1 = 1 ∨ (mtd 1).2.2.1 = 2) := by decide +kernel
theorem hq_2 : qM 2 = true ∧ 2 < nmeth ∧ ((mtd 2).2.2.1 = 1 ∨ (mtd 2).2.2.1 = 2) := by decide +kernel
theorem hq_3 : qM 3 = true ∧ 3 < nmeth ∧ ((mtd 3).2.2.1 = 1 ∨ (mtd 3).2.2.1 = 2) := by decide +kernel
theorem hq_4 : qM 4 = true ∧ 4 < nmeth ∧ ((mtd 4).2.2.1 = 1 ∨ (mtd 4).2.2.1 = 2) := by decide +kernel
theorem hq_5 : qM 5 = true ∧ 5 < nmeth ∧ (mtd 5).2.2.1 = 3 := by decide +kernel
theorem hq_7 : qM 7 = true ∧ 7 < nmeth ∧ (mtd 7).2.2.1 = 0 := by decide +kernel
theorem hq_8 : qM 8 = true ∧ 8 < nmeth ∧ ((mtd 8).2.2.1 = 1 ∨ (mtd 8).2.2.1 = 2) := by decide +kernel
theorem hq_10 : qM 10 = true ∧ 10 < nmeth ∧ (mtd 10).2.2.1 = 3 := by decide +kernel
theorem hq_12 : qM 12 = true ∧ 12 < nmeth ∧ (mtd 12).2.2.1 = 0 := by decide +kernel
theorem hq_13 : qM 13 = true ∧ 13 < nmeth ∧ ((mtd 13).2.2.1 = 1 ∨ (mtd 13).2.2.1 = 2) := by decide +kernel
theorem hq_14 : qM 14 = true ∧ 14 < nmeth ∧ ((mtd 14).2.2.1 = 1 ∨ (mtd 14).2.2.1 = 2) := by decide +kernel
theorem hq_15 : qM 15 = true ∧ 15 < nmeth ∧ ((mtd 15).2.2.1 = 1 ∨ (mtd 15).2.2.1 = 2) := by decide +kernel
theorem hq_16 : qM 16 = true ∧ 16 < nmeth ∧ (mtd 16).2.2.1 = 4 := by decide +kernel
theorem e_rk16 : (mtd 16).2.2.1 = 4 := by decide +kernel
theorem hq_17 : qM 17 = true ∧ 17 < nmeth ∧ ((mtd 17).2.2.1 = 1 ∨ (mtd 17).2.2.1 = 2) := by decide +kernel
theorem hq_18 : qM 18 = true ∧ 18 < nmeth ∧ ((mtd 18).2.2.1 = 1 ∨ (mtd 18).2.2.1 = 2) := by decide +kernel
theorem hq_19 : qM 19 = true ∧ 19 < nmeth ∧ ((mtd 19).2.2.1 = 1 ∨ (mtd 19).2.2.1 = 2) := by decide +kernel
theorem hq_20 : qM 20 = true ∧ 20 < nmeth ∧ ((mtd 20).2.2.1 = 1 ∨ (mtd 20).2.2.1 = 2) := by decide +kernel
theorem hq_21 : qM 21 = true ∧ 21 < nmeth ∧ ((mtd 21).2.2.1 = 1 ∨ (mtd 21).2.2.1 = 2) := by decide +kernel
theorem hq_22 : qM 22 = true ∧ 22 < nmeth ∧ ((mtd 22).2.2.1 = 1 ∨ (mtd 22).2.2.1 = 2) := by decide +kernel
theorem hq_24 : qM 24 = true ∧ 24 < nmeth ∧ (mtd 24).2.2.1 = 0 := by decide +kernel
theorem hq_25 : qM 25 = true ∧ 25 < nmeth ∧ ((mtd 25).2.2.1 = 1 ∨ (mtd 25).2.2.1 = 2) := by decide +kernel
theorem hq_26 : qM 26 = true ∧ 26 < nmeth ∧ ((mtd 26).2.2.1 = 1 ∨ (mtd 26).2.2.1 = 2) := by decide +kernel
theorem hq_27 : qM 27 = true ∧ 27 < nmeth ∧ ((mtd 27).2.2.1 = 1 ∨ (mtd 27).2.2.1 = 2) := by decide +kernel
theorem hq_28 : qM 28 = true ∧ 28 < nmeth ∧ ((mtd 28).2.2.1 = 1 ∨ (mtd 28).2.2.1 = 2) := by decide +kernel
theorem hq_29 : qM 29 = true ∧ 29 < nmeth ∧ ((mtd 29).2.2.1 = 1 ∨ (mtd 29).2.2.1 = 2) := by decide +kernel
theorem hq_30 : qM 30 = true ∧ 30 < nmeth ∧ ((mtd 30).2.2.1 = 1 ∨ (mtd 30).2.2.1 = 2) := by decide +kernel
theorem hq_31 : qM 31 = true ∧ 31 < nmeth ∧ ((mtd 31).2.2.1 = 1 ∨ (mtd 31).2.2.1 = 2) := by decide +kernel
theorem hq_32 : qM 32 = true ∧ 32 < nmeth ∧ ((mtd 32).2.2.1 = 1 ∨ (mtd 32).2.2.1 = 2) := by decide +kernel
theorem hq_33 : qM 33 = true ∧ 33 < nmeth ∧ ((mtd 33).2.2.1 = 1 ∨ (mtd 33).2.2.1 = 2) := by decide +kernel
theorem hq_34 : qM 34 = true ∧ 34 < nmeth ∧ ((mtd 34).2.2.1 = 1 ∨ (mtd 34).2.2.1 = 2) := by decide +kernel
theorem hq_35 : qM 35 = true ∧ 35 < nmeth ∧ ((mtd 35).2.2.1 = 1 ∨ (mtd 35).2.2.1 = 2) := by decide +kernel
theorem hq_36 : qM 36 = true ∧ 36 < nmeth ∧ ((mtd 36).2.2.1 = 1 ∨ (mtd 36).2.2.1 = 2) := by decide +kernel
theorem hq_37 : qM 37 = true ∧ 37 < nmeth ∧ ((mtd 37).2.2.1 = 1 ∨ (mtd 37).2.2.1 = 2) := by decide +kernel
theorem hq_39 : qM 39 = true ∧ 39 < nmeth ∧ (mtd 39).2.2.1 = 0 := by decide +kernel
theorem hq_40 : qM 40 = true ∧ 40 < nmeth ∧ (mtd 40).2.2.1 = 0 := by decide +kernel
theorem hq_41 : qM 41 = true ∧ 41 < nmeth ∧ (mtd 41).2.2.1 = 0 := by decide +kernel
theorem hq_42 : qM 42 = true ∧ 42 < nmeth ∧ (mtd 42).2.2.1 = 0 := by decide +kernel
theorem hq_43 : qM 43 = true ∧ 43 < nmeth ∧ (mtd 43).2.2.1 = 0 := by decide +kernel
theorem hq_44 : qM 44 = true ∧ 44 < nmeth ∧ (mtd 44).2.2.1 = 0 := by decide +kernel
theorem hq_45 : qM 45 = true ∧ 45 < nmeth ∧ (mtd 45).2.2.1 = 3 := by decide +kernel
theorem hq_47 : qM 47 = true ∧ 47 < nmeth ∧ (mtd 47).2.2.1 = 0 := by decide +kernel
theorem hq_48 : qM 48 = true ∧ 48 < nmeth ∧ ((mtd 48).2.2.1 = 1 ∨ (mtd 48).2.2.1 = 2) := by decide +kernel
theorem hq_49 : qM 49 = true ∧ 49 < nmeth ∧ ((mtd 49).2.2.1 = 1 ∨ (mtd 49).2.2.1 = 2) := by decide +kernel
theorem hq_50 : qM 50 = true ∧ 50 < nmeth ∧ (mtd 50).2.2.1 = 0 := by decide +kernel
theorem hq_51 : qM 51 = true ∧ 51 < nmeth ∧ (mtd 51).2.2.1 = 0 := by decide +kernel
theorem hq_52 : qM 52 = true ∧ 52 < nmeth ∧ (mtd 52).2.2.1 = 0 := by decide +kernel
theorem hq_53 : qM 53 = true ∧ 53 < nmeth ∧ (mtd 53).2.2.1 = 0 := by decide +kernel
theorem hq_54 : qM 54 = true ∧ 54 < nmeth ∧ ((mtd 54).2.2.1 = 1 ∨ (mtd 54).2.2.1 = 2) := by decide +kernel
theorem hq_55 : qM 55 = true ∧ 55 < nmeth ∧ ((mtd 55).2.2.1 = 1 ∨ (mtd 55).2.2.1 = 2) := by decide +kernel
theorem hq_56 : qM 56 = true ∧ 56 < nmeth ∧ ((mtd 56).2.2.1 = 1 ∨ (mtd 56).2.2.1 = 2) := by decide +kernel
theorem hq_57 : qM 57 = true ∧ 57 < nmeth ∧ ((mtd 57).2.2.1 = 1 ∨ (mtd 57).2.2.1 = 2) := by decide +kernel
theorem hq_58 : qM 58 = true ∧ 58 < nmeth ∧ ((mtd 58).2.2.1 = 1 ∨ (mtd 58).2.2.1 = 2) := by decide +kernel
theorem hq_59 : qM 59 = true ∧ 59 < nmeth ∧ (mtd 59).2.2.1 = 0 := by decide +kernel
theorem hq_60 : qM 60 = true ∧ 60 < nmeth ∧ ((mtd 60).2.2.1 = 1 ∨ (mtd 60).2.2.1 = 2) := by decide +kernel
theorem hq_61 : qM 61 = true ∧ 61 < nmeth ∧ (mtd 61).2.2.1 = 0 := by decide +kernel
theorem hq_62 : qM 62 = true ∧ 62 < nmeth ∧ ((mtd 62).2.2.1 = 1 ∨ (mtd 62).2.2.1 = 2) := by decide +kernel
theorem hq_63 : qM 63 = true ∧ 63 < nmeth ∧ (mtd 63).2.2.1 = 0 := by decide +kernel
theorem hq_64 : qM 64 = true ∧ 64 < nmeth ∧ (mtd 64).2.2.1 = 0 := by decide +kernel
theorem hq_65 : qM 65 = true ∧ 65 < nmeth ∧ ((mtd 65).2.2.1 = 1 ∨ (mtd 65).2.2.1 = 2) := by decide +kernel
theorem hq_66 : qM 66 = true ∧ 66 < nmeth ∧ ((mtd 66).2.2.1 = 1 ∨ (mtd 66).2.2.1 = 2) := by decide +kernel
theorem hq_67 : qM 67 = true ∧ 67 < nmeth ∧ ((mtd 67).2.2.1 = 1 ∨ (mtd 67).2.2.1 = 2) := by decide +kernel
theorem hq_68 : qM 68 = true ∧ 68 < nmeth ∧ ((mtd 68).2.2.1 = 1 ∨ (mtd 68).2.2.1 = 2) := by decide +kernel
theorem hq_69 : qM 69 = true ∧ 69 < nmeth ∧ ((mtd 69).2.2.1 = 1 ∨ (mtd 69).2.2.1 = 2) := by decide +kernel
theorem hq_71 : qM 71 = true ∧ 71 < nmeth ∧ ((mtd 71).2.2.1 = 1 ∨ (mtd 71).2.2.1 = 2) := by decide +kernel
theorem hq_72 : qM 72 = true ∧ 72 < nmeth ∧ ((mtd 72).2.2.1 = 1 ∨ (mtd 72).2.2.1 = 2) := by decide +kernel
theorem hq_73 : qM 73 = true ∧ 73 < nmeth ∧ ((mtd 73).2.2.1 = 1 ∨ (mtd 73).2.2.1 = 2) := by decide +kernel
theorem hq_74 : qM 74 = true ∧ 74 < nmeth ∧ ((mtd 74).2.2.1 = 1 ∨ (mtd 74).2.2.1 = 2) := by decide +kernel
theorem hq_75 : qM 75 = true ∧ 75 < nmeth ∧ ((mtd 75).2.2.1 = 1 ∨ (mtd 75).2.2.1 = 2) := by decide +kernel
theorem hq_76 : qM 76 = true ∧ 76 < nmeth ∧ ((mtd 76).2.2.1 = 1 ∨ (mtd 76).2.2.1 = 2) := by decide +kernel
theorem hq_77 : qM 77 = true ∧ 77 < nmeth ∧ ((mtd 77).2.2.1 = 1 ∨ (mtd 77).2.2.1 = 2) := by decide +kernel
theorem hq_78 : qM 78 = true ∧ 78 < nmeth ∧ ((mtd 78).2.2.1 = 1 ∨ (mtd 78).2.2.1 = 2) := by decide +kernel
theorem hq_79 : qM 79 = true ∧ 79 < nmeth ∧ ((mtd 79).2.2.1 = 1 ∨ (mtd 79).2.2.1 = 2) := by decide +kernel
theorem hq_80 : qM 80 = true ∧ 80 < nmeth ∧ ((mtd 80).2.2.1 = 1 ∨ (mtd 80).2.2.1 = 2) := by decide +kernel
theorem hq_81 : qM 81 = true ∧ 81 < nmeth ∧ ((mtd 81).2.2.1 = 1 ∨ (mtd 81).2.2.1 = 2) := by decide +kernel
theorem hq_82 : qM 82 = true ∧ 82 < nmeth ∧ ((mtd 82).2.2.1 = 1 ∨ (mtd 82).2.2.1 = 2) := by decide +kernel
theorem hq_83 : qM 83 = true ∧ 83 < nmeth ∧ ((mtd 83).2.2.1 = 1 ∨ (mtd 83).2.2.1 = 2) := by decide +kernel
theorem hq_84 : qM 84 = true ∧ 84 < nmeth ∧ ((mtd 84).2.2.1 = 1 ∨ (mtd 84).2.2.1 = 2) := by decide +kernel
theorem hq_85 : qM 85 = true ∧ 85 < nmeth ∧ ((mtd 85).2.2.1 = 1 ∨ (mtd 85).2.2.1 = 2) := by decide +kernel
theorem hq_86 : qM 86 = true ∧ 86 < nmeth ∧ ((mtd 86).2.2.1 = 1 ∨ (mtd 86).2.2.1 = 2) := by decide +kernel
theorem hq_87 : qM 87 = true ∧ 87 < nmeth ∧ ((mtd 87).2.2.1 = 1 ∨ (mtd 87).2.2.1 = 2) := by decide +kernel
theorem hq_88 : qM 88 = true ∧ 88 < nmeth ∧ ((mtd 88).2.2.1 = 1 ∨ (mtd 88).2.2.1 = 2) := by decide +kernel
theorem hq_89 : qM 89 = true ∧ 89 < nmeth ∧ ((mtd 89).2.2.1 = 1 ∨ (mtd 89).2.2.1 = 2) := by decide +kernel
theorem hq_91 : qM 91 = true ∧ 91 < nmeth ∧ (mtd 91).2.2.1 = 0 := by decide +kernel
theorem hq_93 : qM 93 = true ∧ 93 < nmeth ∧ ((mtd 93).2.2.1 = 1 ∨ (mtd 93).2.2.1 = 2) := by decide +kernel
theorem hq_94 : qM 94 = true ∧ 94 < nmeth ∧ ((mtd 94).2.2.1 = 1 ∨ (mtd 94).2.2.1 = 2) := by decide +kernel
theorem hq_95 : qM 95 = true ∧ 95 < nmeth ∧ ((mtd 95).2.2.1 = 1 ∨ (mtd 95).2.2.1 = 2) := by decide +kernel
theorem hq_96 : qM 96 = true ∧ 96 < nmeth ∧ ((mtd 96).2.2.1 = 1 ∨ (mtd 96).2.2.1 = 2) := by decide +kernel
theorem hq_97 : qM 97 = true ∧ 97 < nmeth ∧ ((mtd 97).2.2.1 = 1 ∨ (mtd 97).2.2.1 = 2) := by decide +kernel
theorem hq_98 : qM 98 = true ∧ 98 < nmeth ∧ ((mtd 98).2.2.1 = 1 ∨ (mtd 98).2.2.1 = 2) := by decide +kernel
theorem hq_99 : qM 99 = true ∧ 99 < nmeth ∧ ((mtd 99).2.2.1 = 1 ∨ (mtd 99).2.2.1 = 2) := by decide +kernel
theorem hq_100 : qM 100 = true ∧ 100 < nmeth ∧ ((mtd 100).2.2.1 = 1 ∨ (mtd 100).2.2.1 = 2) := by decide +kernel
theorem hq_101 : qM 101 = true ∧ 101 < nmeth ∧ ((mtd 101).2.2.1 = 1 ∨ (mtd 101).2.2.1 = 2) := by decide +kernel
theorem hq_102 : qM 102 = true ∧ 102 < nmeth ∧ ((mtd 102).2.2.1 = 1 ∨ (mtd 102).2.2.1 = 2) := by decide +kernel
theorem hq_103 : qM 103 = true ∧ 103 < nmeth ∧ ((mtd 103).2.2.1 = 1 ∨ (mtd 103).2.2.1 = 2) := by decide +kernel
theorem hq_104 : qM 104 = true ∧ 104 < nmeth ∧ ((mtd 104).2.2.1 = 1 ∨ (mtd 104).2.2.1 = 2) := by decide +kernel
theorem hq_105 : qM 105 = true ∧ 105 < nmeth ∧ ((mtd 105).2.2.1 = 1 ∨ (mtd 105).2.2.1 = 2) := by decide +kernel
theorem hq_106 : qM 106 = true ∧ 106 < nmeth ∧ ((mtd 106).2.2.1 = 1 ∨ (mtd 106).2.2.1 = 2) := by decide +kernel
theorem hq_107 : qM 107 = true ∧ 107 < nmeth ∧ ((mtd 107).2.2.1 = 1 ∨ (mtd 107).2.2.1 = 2) := by decide +kernel
theorem hq_108 : qM 108 = true ∧ 108 < nmeth ∧ ((mtd 108).2.2.1 = 1 ∨ (mtd 108).2.2.1 = 2) := by decide +kernel
theorem hq_109 : qM 109 = true ∧ 109 < nmeth ∧ ((mtd 109).2.2.1 = 1 ∨ (mtd 109).2.2.1 = 2) := by decide +kernel
theorem hq_110 : qM 110 = true ∧ 110 < nmeth ∧ (mtd 110).2.2.1 = 0 := by decide +kernel
theorem hq_111 : qM 111 = true ∧ 111 < nmeth ∧ ((mtd 111).2.2.1 = 1 ∨ (mtd 111).2.2.1 = 2) := by decide +kernel
theorem hq_112 : qM 112 = true ∧ 112 < nmeth ∧ ((mtd 112).2.2.1 = 1 ∨ (mtd 112).2.2.1 = 2) := by decide +kernel
theorem hq_113 : qM 113 = true ∧ 113 < nmeth ∧ ((mtd 113).2.2.1 = 1 ∨ (mtd 113).2.2.1 = 2) := by decide +kernel
theorem hq_114 : qM 114 = true ∧ 114 < nmeth ∧ ((mtd 114).2.2.1 = 1 ∨ (mtd 114).2.2.1 = 2) := by decide +kernel
theorem hq_115 : qM 115 = true ∧ 115 < nmeth ∧ ((mtd 115).2.2.1 = 1 ∨ (mtd 115).2.2.1 = 2) := by decide +kernel
theorem hq_116 : qM 116 = true ∧ 116 < nmeth ∧ ((mtd 116).2.2.1 = 1 ∨ (mtd 116).2.2.1 = 2) := by decide +kernel
theorem hq_117 : qM 117 = true ∧ 117 < nmeth ∧ ((mtd 117).2.2.1 = 1 ∨ (mtd 117).2.2.1 = 2) := by decide +kernel
theorem hq_118 : qM 118 = true ∧ 118 < nmeth ∧ ((mtd 118).2.2.1 = 1 ∨ (mtd 118).2.2.1 = 2) := by decide +kernel
theorem hq_119 : qM 119 = true ∧ 119 < nmeth ∧ ((mtd 119).2.2.1 = 1 ∨ (mtd 119).2.2.1 = 2) := by decide +kernel
theorem hq_120 : qM 120 = true ∧ 120 < nmeth ∧ (mtd 120).2.2.1 = 3 := by decide +kernel
theorem hq_121 : qM 121 = true ∧ 121 < nmeth ∧ ((mtd 121).2.2.1 = 1 ∨ (mtd 121).2.2.1 = 2) := by decide +kernel
theorem hq_122 : qM 122 = true ∧ 122 < nmeth ∧ ((mtd 122).2.2.1 = 1 ∨ (mtd 122).2.2.1 = 2) := by decide +kernel
theorem hq_123 : qM 123 = true ∧ 123 < nmeth ∧ ((mtd 123).2.2.1 = 1 ∨ (mtd 123).2.2.1 = 2) := by decide +kernel
theorem hq_124 : qM 124 = true ∧ 124 < nmeth ∧ ((mtd 124).2.2.1 = 1 ∨ (mtd 124).2.2.1 = 2) := by decide +kernel
theorem hq_125 : qM 125 = true ∧ 125 < nmeth ∧ (mtd 125).2.2.1 = 0 := by decide +kernel
theorem hq_126 : qM 126 = true ∧ 126 < nmeth ∧ (mtd 126).2.2.1 = 0 := by decide +kernel
theorem hq_127 : qM 127 = true ∧ 127 < nmeth ∧ ((mtd 127).2.2.1 = 1 ∨ (mtd 127).2.2.1 = 2) := by decide +kernel
theorem hq_128 : qM 128 = true ∧ 128 < nmeth ∧ (mtd 128).2.2.1 = 0 := by decide +kernel
theorem hq_129 : qM 129 = true ∧ 129 < nmeth ∧ (mtd 129).2.2.1 = 0 := by decide +kernel
theorem hq_130 : qM 130 = true ∧ 130 < nmeth ∧ ((mtd 130).2.2.1 = 1 ∨ (mtd 130).2.2.1 = 2) := by decide +kernel
theorem hq_131 : qM 131 = true ∧ 131 < nmeth ∧ ((mtd 131).2.2.1 = 1 ∨ (mtd 131).2.2.1 = 2) := by decide +kernel
theorem hq_132 : qM 132 = true ∧ 132 < nmeth ∧ ((mtd 132).2.2.1 = 1 ∨ (mtd 132).2.2.1 = 2) := by decide +kernel
theorem hq_133 : qM 133 = true ∧ 133 < nmeth ∧ (mtd 133).2.2.1 = 3 := by decide +kernel
theorem hq_135 : qM 135 = true ∧ 135 < nmeth ∧ ((mtd 135).2.2.1 = 1 ∨ (mtd 135).2.2.1 = 2) := by decide +kernel
theorem hq_136 : qM 136 = true ∧ 136 < nmeth ∧ ((mtd 136).2.2.1 = 1 ∨ (mtd 136).2.2.1 = 2) := by decide +kernel
theorem hq_137 : qM 137 = true ∧ 137 < nmeth ∧ ((mtd 137).2.2.1 = 1 ∨ (mtd 137).2.2.1 = 2) := by decide +kernel
theorem hq_138 : qM 138 = true ∧ 138 < nmeth ∧ ((mtd 138).2.2.1 = 1 ∨ (mtd 138).2.2.1 = 2) := by decide +kernel
theorem hq_139 : qM 139 = true ∧ 139 < nmeth ∧ ((mtd 139).2.2.1 = 1 ∨ (mtd 139).2.2.1 = 2) := by decide +kernel
theorem hq_140 : qM 140 = true ∧ 140 < nmeth ∧ ((mtd 140).2.2.1 = 1 ∨ (mtd 140).2.2.1 = 2) := by decide +kernel
theorem hq_141 : qM 141 = true ∧ 141 < nmeth ∧ ((mtd 141).2.2.1 = 1 ∨ (mtd 141).2.2.1 = 2) := by decide +kernel
theorem hq_142 : qM 142 = true ∧ 142 < nmeth ∧ ((mtd 142).2.2.1 = 1 ∨ (mtd 142).2.2.1 = 2) := by decide +kernel
theorem hq_143 : qM 143 = true ∧ 143 < nmeth ∧ ((mtd 143).2.2.1 = 1 ∨ (mtd 143).2.2.1 = 2) := by decide +kernel
theorem hq_144 : qM 144 = true ∧ 144 < nmeth ∧ ((mtd 144).2.2.1 = 1 ∨ (mtd 144).2.2.1 = 2) := by decide +kernel
theorem hq_145 : qM 145 = true ∧ 145 < nmeth ∧ ((mtd 145).2.2.1 = 1 ∨ (mtd 145).2.2.1 = 2) := by decide +kernel
theorem hq_146 : qM 146 = true ∧ 146 < nmeth ∧ ((mtd 146).2.2.1 = 1 ∨ (mtd 146).2.2.1 = 2) := by decide +kernel
theorem hq_147 : qM 147 = true ∧ 147 < nmeth ∧ ((mtd 147).2.2.1 = 1 ∨ (mtd 147).2.2.1 = 2) := by decide +kernel
theorem hq_148 : qM 148 = true ∧ 148 < nmeth ∧ ((mtd 148).2.2.1 = 1 ∨ (mtd 148).2.2.1 = 2) := by decide +kernel
theorem hq_149 : qM 149 = true ∧ 149 < nmeth ∧ ((mtd 149).2.2.1 = 1 ∨ (mtd 149).2.2.1 = 2) := by decide +kernel
theorem hq_150 : qM 150 = true ∧ 150 < nmeth ∧ ((mtd 150).2.2.1 = 1 ∨ (mtd 150).2.2.1 = 2) := by decide +kernel
theorem hq_151 : qM 151 = true ∧ 151 < nmeth ∧ ((mtd 151).2.2.1 = 1 ∨ (mtd 151).2.2.1 = 2) := by decide +kernel
theorem hq_152 : qM 152 = true ∧ 152 < nmeth ∧ ((mtd 152).2.2.1 = 1 ∨ (mtd 152).2.2.1 = 2) := by decide +kernel
theorem hq_153 : qM 153 = true ∧ 153 < nmeth ∧ ((mtd 153).2.2.1 = 1 ∨ (mtd 153).2.2.1 = 2) := by decide +kernel
theorem hq_154 : qM 154 = true ∧ 154 < nmeth ∧ ((mtd 154).2.2.1 = 1 ∨ (mtd 154).2.2.1 = 2) := by decide +kernel
theorem hq_155 : qM 155 = true ∧ 155 < nmeth ∧ ((mtd 155).2.2.1 = 1 ∨ (mtd 155).2.2.1 = 2) := by decide +kernel
theorem hq_156 : qM 156 = true ∧ 156 < nmeth ∧ ((mtd 156).2.2.1 = 1 ∨ (mtd 156).2.2.1 = 2) := by decide +kernel
theorem hq_157 : qM 157 = true ∧ 157 < nmeth ∧ ((mtd 157).2.2.1 = 1 ∨ (mtd 157).2.2.1 = 2) := by decide +kernel
theorem hq_158 : qM 158 = true ∧ 158 < nmeth ∧ ((mtd 158).2.2.1 = 1 ∨ (mtd 158).2.2.1 = 2) := by decide +kernel
theorem hq_159 : qM 159 = true ∧ 159 < nmeth ∧ ((mtd 159).2.2.1 = 1 ∨ (mtd 159).2.2.1 = 2) := by decide +kernel
theorem hq_160 : qM 160 = true ∧ 160 < nmeth ∧ ((mtd 160).2.2.1 = 1 ∨ (mtd 160).2.2.1 = 2) := by decide +kernel
theorem hq_161 : qM 161 = true ∧ 161 < nmeth ∧ ((mtd 161).2.2.1 = 1 ∨ (mtd 161).2.2.1 = 2) := by decide +kernel
theorem hq_162 : qM 162 = true ∧ 162 < nmeth ∧ ((mtd 162).2.2.1 = 1 ∨ (mtd 162).2.2.1 = 2) := by decide +kernel
theorem hq_163 : qM 163 = true ∧ 163 < nmeth ∧ ((mtd 163).2.2.1 = 1 ∨ (mtd 163).2.2.1 = 2) := by decide +kernel
theorem hq_164 : qM 164 = true ∧ 164 < nmeth ∧ ((mtd 164).2.2.1 = 1 ∨ (mtd 164).2.2.1 = 2) := by decide +kernel
theorem hq_165 : qM 165 = true ∧ 165 < nmeth ∧ ((mtd 165).2.2.1 = 1 ∨ (mtd 165).2.2.1 = 2) := by decide +kernel
theorem hq_166 : qM 166 = true ∧ 166 < nmeth ∧ ((mtd 166).2.2.1 = 1 ∨ (mtd 166).2.2.1 = 2) := by decide +kernel
theorem hq_167 : qM 167 = true ∧ 167 < nmeth ∧ ((mtd 167).2.2.1 = 1 ∨ (mtd 167).2.2.1 = 2) := by decide +kernel
theorem hq_168 : qM 168 = true ∧ 168 < nmeth ∧ ((mtd 168).2.2.1 = 1 ∨ (mtd 168).2.2.1 = 2) := by decide +kernel
theorem hq_169 : qM 169 = true ∧ 169 < nmeth ∧ ((mtd 169).2.2.1 = 1 ∨ (mtd 169).2.2.1 = 2) := by decide +kernel
theorem hq_170 : qM 170 = true ∧ 170 < nmeth ∧ ((mtd 170).2.2.1 = 1 ∨ (mtd 170).2.2.1 = 2) := by decide +kernel
theorem hq_171 : qM 171 = true ∧ 171 < nmeth ∧ ((mtd 171).2.2.1 = 1 ∨ (mtd 171).2.2.1 = 2) := by decide +kernel
theorem hq_172 : qM 172 = true ∧ 172 < nmeth ∧ ((mtd 172).2.2.1 = 1 ∨ (mtd 172).2.2.1 = 2) := by decide +kernel
theorem hq_173 : qM 173 = true ∧ 173 < nmeth ∧ ((mtd 173).2.2.1 = 1 ∨ (mtd 173).2.2.1 = 2) := by decide +kernel
theorem hq_174 : qM 174 = true ∧ 174 < nmeth ∧ (mtd 174).2.2.1 = 0 := by decide +kernel
theorem hq_175 : qM 175 = true ∧ 175 < nmeth ∧ ((mtd 175).2.2.1 = 1 ∨ (mtd 175).2.2.1 = 2) := by decide +kernel
theorem hq_176 : qM 176 = true ∧ 176 < nmeth ∧ ((mtd 176).2.2.1 = 1 ∨ (mtd 176).2.2.1 = 2) := by decide +kernel
theorem hq_177 : qM 177 = true ∧ 177 < nmeth ∧ ((mtd 177).2.2.1 = 1 ∨ (mtd 177).2.2.1 = 2) := by decide +kernel
theorem hq_178 : qM 178 = true ∧ 178 < nmeth ∧ ((mtd 178).2.2.1 = 1 ∨ (mtd 178).2.2.1 = 2) := by decide +kernel
theorem hq_179 : qM 179 = true ∧ 179 < nmeth ∧ (mtd 179).2.2.1 = 0 := by decide +kernel
theorem hq_180 : qM 180 = true ∧ 180 < nmeth ∧ (mtd 180).2.2.1 = 0 := by decide +kernel
theorem hq_181 : qM 181 = true ∧ 181 < nmeth ∧ (mtd 181).2.2.1 = 0 := by decide +kernel
theorem hq_182 : qM 182 = true ∧ 182 < nmeth ∧ (mtd 182).2.2.1 = 0 := by decide +kernel
theorem hq_183 : qM 183 = true ∧ 183 < nmeth ∧ (mtd 183).2.2.1 = 0 := by decide +kernel
theorem hq_184 : qM 184 = true ∧ 184 < nmeth ∧ ((mtd 184).2.2.1 = 1 ∨ (mtd 184).2.2.1 = 2) := by decide +kernel
theorem hq_185 : qM 185 = true ∧ 185 < nmeth ∧ ((mtd 185).2.2.1 = 1 ∨ (mtd 185).2.2.1 = 2) := by decide +kernel
theorem hq_186 : qM 186 = true ∧ 186 < nmeth ∧ ((mtd 186).2.2.1 = 1 ∨ (mtd 186).2.2.1 = 2) := by decide +kernel
theorem hq_187 : qM 187 = true ∧ 187 < nmeth ∧ ((mtd 187).2.2.1 = 1 ∨ (mtd 187).2.2.1 = 2) := by decide +kernel
theorem hq_188 : qM 188 = true ∧ 188 < nmeth ∧ ((mtd 188).2.2.1 = 1 ∨ (mtd 188).2.2.1 = 2) := by decide +kernel
theorem hq_189 : qM 189 = true ∧ 189 < nmeth ∧ ((mtd 189).2.2.1 = 1 ∨ (mtd 189).2.2.1 = 2) := by decide +kernel
theorem hq_190 : qM 190 = true ∧ 190 < nmeth ∧ ((mtd 190).2.2.1 = 1 ∨ (mtd 190).2.2.1 = 2) := by decide +kernel
theorem hq_191 : qM 191 = true ∧ 191 < nmeth ∧ ((mtd 191).2.2.1 = 1 ∨ (mtd 191).2.2.1 = 2) := by decide +kernel
theorem hq_192 : qM 192 = true ∧ 192 < nmeth ∧ ((mtd 192).2.2.1 = 1 ∨ (mtd 192).2.2.1 = 2) := by decide +kernel
theorem hq_193 : qM 193 = true ∧ 193 < nmeth ∧ ((mtd 193).2.2.1 = 1 ∨ (mtd 193).2.2.1 = 2) := by decide +kernel
theorem hq_194 : qM 194 = true ∧ 194 < nmeth ∧ (mtd 194).2.2.1 = 0 := by decide +kernel
theorem hq_195 : qM 195 = true ∧ 195 < nmeth ∧ ((mtd 195).2.2.1 = 1 ∨ (mtd 195).2.2.1 = 2) := by decide +kernel
theorem hq_196 : qM 196 = true ∧ 196 < nmeth ∧ ((mtd 196).2.2.1 = 1 ∨ (mtd 196).2.2.1 = 2) := by decide +kernel
theorem hq_197 : qM 197 = true ∧ 197 < nmeth ∧ (mtd 197).2.2.1 = 3 := by decide +kernel
theorem hq_198 : qM 198 = true ∧ 198 < nmeth ∧ ((mtd 198).2.2.1 = 1 ∨ (mtd 198).2.2.1 = 2) := by decide +kernel
theorem hq_199 : qM 199 = true ∧ 199 < nmeth ∧ (mtd 199).2.2.1 = 0 := by decide +kernel
theorem hq_200 : qM 200 = true ∧ 200 < nmeth ∧ (mtd 200).2.2.1 = 0 := by decide +kernel
theorem hq_201 : qM 201 = true ∧ 201 < nmeth ∧ (mtd 201).2.2.1 = 0 := by decide +kernel
theorem hq_202 : qM 202 = true ∧ 202 < nmeth ∧ (mtd 202).2.2.1 = 3 := by decide +kernel
theorem hq_203 : qM 203 = true ∧ 203 < nmeth ∧ ((mtd 203).2.2.1 = 1 ∨ (mtd 203).2.2.1 = 2) := by decide +kernel
theorem hq_204 : qM 204 = true ∧ 204 < nmeth ∧ ((mtd 204).2.2.1 = 1 ∨ (mtd 204).2.2.1 = 2) := by decide +kernel
theorem hq_205 : qM 205 = true ∧ 205 < nmeth ∧ ((mtd 205).2.2.1 = 1 ∨ (mtd 205).2.2.1 = 2) := by decide +kernel
theorem hq_206 : qM 206 = true ∧ 206 < nmeth ∧ ((mtd 206).2.2.1 = 1 ∨ (mtd 206).2.2.1 = 2) := by decide +kernel
theorem hq_207 : qM 207 = true ∧ 207 < nmeth ∧ ((mtd 207).2.2.1 = 1 ∨ (mtd 207).2.2.1 = 2) := by decide +kernel
theorem hq_208 : qM 208 = true ∧ 208 < nmeth ∧ ((mtd 208).2.2.1 = 1 ∨ (mtd 208).2.2.1 = 2) := by decide +kernel
theorem hq_209 : qM 209 = true ∧ 209 < nmeth ∧ (mtd 209).2.2.1 = 3 := by decide +kernel
theorem hq_210 : qM 210 = true ∧ 210 < nmeth ∧ ((mtd 210).2.2.1 = 1 ∨ (mtd 210).2.2.1 = 2) := by decide +kernel
theorem hq_211 : qM 211 = true ∧ 211 < nmeth ∧ ((mtd 211).2.2.1 = 1 ∨ (mtd 211).2.2.1 = 2) := by decide +kernel
theorem hq_212 : qM 212 = true ∧ 212 < nmeth ∧ ((mtd 212).2.2.1 = 1 ∨ (mtd 212).2.2.1 = 2) := by decide +kernel
theorem hq_213 : qM 213 = true ∧ 213 < nmeth ∧ (mtd 213).2.2.1 = 0 := by decide +kernel
theorem hq_214 : qM 214 = true ∧ 214 < nmeth ∧ ((mtd 214).2.2.1 = 1 ∨ (mtd 214).2.2.1 = 2) := by decide +kernel
theorem hq_215 : qM 215 = true ∧ 215 < nmeth ∧ ((mtd 215).2.2.1 = 1 ∨ (mtd 215).2.2.1 = 2) := by decide +kernel
theorem hq_216 : qM 216 = true ∧ 216 < nmeth ∧ ((mtd 216).2.2.1 = 1 ∨ (mtd 216).2.2.1 = 2) := by decide +kernel
theorem hq_217 : qM 217 = true ∧ 217 < nmeth ∧ ((mtd 217).2.2.1 = 1 ∨ (mtd 217).2.2.1 = 2) := by decide +kernel
theorem hq_218 : qM 218 = true ∧ 218 < nmeth ∧ ((mtd 218).2.2.1 = 1 ∨ (mtd 218).2.2.1 = 2) := by decide +kernel
theorem hq_219 : qM 219 = true ∧ 219 < nmeth ∧ ((mtd 219).2.2.1 = 1 ∨ (mtd 219).2.2.1 = 2) := by decide +kernel
theorem hq_220 : qM 220 = true ∧ 220 < nmeth ∧ ((mtd 220).2.2.1 = 1 ∨ (mtd 220).2.2.1 = 2) := by decide +kernel
theorem hq_221 : qM 221 = true ∧ 221 < nmeth ∧ ((mtd 221).2.2.1 = 1 ∨ (mtd 221).2.2.1 = 2) := by decide +kernel
theorem hq_222 : qM 222 = true ∧ 222 < nmeth ∧ ((mtd 222).2.2.1 = 1 ∨ (mtd 222).2.2.1 = 2) := by decide +kernel
theorem hq_223 : qM 223 = true ∧ 223 < nmeth ∧ (mtd 223).2.2.1 = 0 := by decide +kernel
theorem hq_224 : qM 224 = true ∧ 224 < nmeth ∧ (mtd 224).2.2.1 = 0 := by decide +kernel
theorem hq_225 : qM 225 = true ∧ 225 < nmeth ∧ ((mtd 225).2.2.1 = 1 ∨ (mtd 225).2.2.1 = 2) := by decide +kernel
noncomputable def jRg_firstByte (L : Nat) (a0 : Int) (g : AMem) : Option (Int × AMem) := tI (RF 1 0 [vI a0] [] (SH L) g)
noncomputable def jRg_width (L : Nat) (a0 : Int) (g : AMem) : Option (Int × AMem) := tI (RF 2 0 [vI a0] [] (SH L) g)
noncomputable def jRg_shareByte (L : Nat) (a0 : Int) (a1 : Int) (g : AMem) : Option (Int × AMem) := tI (RF 3 0 [vI a0, vI a1] [] (SH L) g)
noncomputable def jBk_hasRoomAt (L : Nat) (t0 : Int) (a1 : Int) (g : AMem) : Option (Int × AMem) := tI (RF 4 0 [vR t0, vI a1, vU] [] (SH L) g)
noncomputable def jBk_hasRoomAt_2 (L : Nat) (t0 : Int) (l1 : Int) (l2 : Int) (g : AMem) : Option (Int × AMem) := tI (RF 4 2 [vR t0, vI l1, vI l2] [] (SH L) g)
noncomputable def jBk_mix (L : Nat) (t0 : Int) (a1 : Int) (g : AMem) : Option (Int × AMem) := tL (RF 5 0 [vR t0, vL a1, vU, vU, vU, vU] [] (SH L) g)
noncomputable def jBk_mix_15 (L : Nat) (t0 : Int) (l1 : Int) (l3 : Int) (l5 : Int) (g : AMem) : Option (Int × AMem) := tL (RF 5 15 [vR t0, vL l1, vU, vL l3, vU, vI l5] [] (SH L) g)
noncomputable def jDi_start (L : Nat) (a1 : Int) (g : AMem) : Option (AMem) := tV (RF 7 0 [vR 135, vI a1] [] (SH L) g)
noncomputable def jDi_nextBelow (L : Nat) (a1 : Int) (g : AMem) : Option (Int × AMem) := tI (RF 8 0 [vR 135, vI a1] [] (SH L) g)
noncomputable def jEd_mix (L : Nat) (t0 : Int) (a1 : Int) (a3 : Int) (g : AMem) : Option (Int × AMem) := tL (RF 10 0 [vR t0, vL a1, vU, vI a3, vU, vU, vU] [] (SH L) g)
noncomputable def jEd_mix_44 (L : Nat) (t0 : Int) (l1 : Int) (l3 : Int) (l4 : Int) (l6 : Int) (g : AMem) : Option (Int × AMem) := tL (RF 10 44 [vR t0, vL l1, vU, vI l3, vL l4, vU, vI l6] [] (SH L) g)
noncomputable def jGr_removeAll (L : Nat) (t0 : Int) (g : AMem) : Option (AMem) := tV (RF 12 0 [vR t0] [] (SH L) g)
noncomputable def jX_isBelow (L : Nat) (a0 : Int) (a1 : Int) (g : AMem) : Option (Int × AMem) := tI (RF 13 0 [vI a0, vI a1] [] (SH L) g)
noncomputable def jGr_hasBlock (L : Nat) (t0 : Int) (a1 : Int) (g : AMem) : Option (Int × AMem) := tI (RF 14 0 [vR t0, vI a1] [] (SH L) g)
noncomputable def jGr_hasEdge (L : Nat) (t0 : Int) (a1 : Int) (g : AMem) : Option (Int × AMem) := tI (RF 15 0 [vR t0, vI a1] [] (SH L) g)
noncomputable def jGr_goalOf (L : Nat) (t0 : Int) (a1 : Int) (g : AMem) : Option (Int × AMem) := tR (RF 16 0 [vR t0, vI a1] [] (SH L) g)
noncomputable def jGr_addBlock (L : Nat) (t0 : Int) (g : AMem) : Option (Int × AMem) := tI (RF 17 0 [vR t0] [] (SH L) g)
noncomputable def jGr_addParameter (L : Nat) (t0 : Int) (a1 : Int) (a2 : Int) (g : AMem) : Option (Int × AMem) := tI (RF 18 0 [vR t0, vI a1, vI a2, vU, vU] [] (SH L) g)
noncomputable def jGr_addParameter_66 (L : Nat) (t0 : Int) (l1 : Int) (l2 : Int) (l3 : Int) (l4 : Int) (g : AMem) : Option (Int × AMem) := tI (RF 18 66 [vR t0, vI l1, vI l2, vI l3, vI l4] [] (SH L) g)
noncomputable def jGr_addEdge (L : Nat) (t0 : Int) (a1 : Int) (a2 : Int) (a3 : Int) (g : AMem) : Option (Int × AMem) := tI (RF 19 0 [vR t0, vI a1, vI a2, vI a3, vU] [] (SH L) g)
noncomputable def jGr_countFrom (L : Nat) (t0 : Int) (a1 : Int) (g : AMem) : Option (Int × AMem) := tI (RF 20 0 [vR t0, vI a1, vU, vU] [] (SH L) g)
noncomputable def jGr_countFrom_4 (L : Nat) (t0 : Int) (l1 : Int) (l2 : Int) (l3 : Int) (g : AMem) : Option (Int × AMem) := tI (RF 20 4 [vR t0, vI l1, vI l2, vI l3] [] (SH L) g)
noncomputable def jGr_countTo (L : Nat) (t0 : Int) (a1 : Int) (g : AMem) : Option (Int × AMem) := tI (RF 21 0 [vR t0, vI a1, vU, vU] [] (SH L) g)
noncomputable def jGr_countTo_4 (L : Nat) (t0 : Int) (l1 : Int) (l2 : Int) (l3 : Int) (g : AMem) : Option (Int × AMem) := tI (RF 21 4 [vR t0, vI l1, vI l2, vI l3] [] (SH L) g)
noncomputable def jGr_whereStepsGo (L : Nat) (t0 : Int) (a1 : Int) (g : AMem) : Option (Int × AMem) := tI (RF 22 0 [vR t0, vI a1] [] (SH L) g)
noncomputable def jHo_look (L : Nat) (t1 : Int) (t2 : Int) (g : AMem) : Option (AMem) := tV (RF 24 0 [vR 116, vR t1, vR t2] [] (SH L) g)
noncomputable def jHo_isSet (L : Nat) (a1 : Int) (g : AMem) : Option (Int × AMem) := tI (RF 25 0 [vR 116, vI a1] [] (SH L) g)
noncomputable def jHo_isOpen (L : Nat) (a1 : Int) (g : AMem) : Option (Int × AMem) := tI (RF 26 0 [vR 116, vI a1] [] (SH L) g)
noncomputable def jHo_involved (L : Nat) (a1 : Int) (g : AMem) : Option (Int × AMem) := tI (RF 27 0 [vR 116, vI a1, vU] [] (SH L) g)
noncomputable def jRg_areAcross (L : Nat) (a0 : Int) (a1 : Int) (g : AMem) : Option (Int × AMem) := tI (RF 28 0 [vI a0, vI a1] [] (SH L) g)
noncomputable def jHo_isClear (L : Nat) (g : AMem) : Option (Int × AMem) := tI (RF 29 0 [vR 116, vU, vU, vU, vU] [] (SH L) g)
noncomputable def jHo_isClear_2 (L : Nat) (l1 : Int) (w2 : AVal) (w3 : AVal) (w4 : AVal) (g : AMem) : Option (Int × AMem) := tI (RF 29 2 [vR 116, vI l1, w2, w3, w4] [] (SH L) g)
noncomputable def jHo_isClear_10 (L : Nat) (l1 : Int) (l2 : Int) (w3 : AVal) (w4 : AVal) (g : AMem) : Option (Int × AMem) := tI (RF 29 10 [vR 116, vI l1, vI l2, w3, w4] [] (SH L) g)
noncomputable def jHo_touches (L : Nat) (a1 : Int) (g : AMem) : Option (Int × AMem) := tI (RF 30 0 [vR 116, vI a1, vU] [] (SH L) g)
noncomputable def jHo_touches_2 (L : Nat) (l1 : Int) (l2 : Int) (g : AMem) : Option (Int × AMem) := tI (RF 30 2 [vR 116, vI l1, vI l2] [] (SH L) g)
noncomputable def jHo_openAt (L : Nat) (a1 : Int) (g : AMem) : Option (Int × AMem) := tI (RF 31 0 [vR 116, vI a1, vU] [] (SH L) g)
noncomputable def jHo_openAt_2 (L : Nat) (l1 : Int) (l2 : Int) (g : AMem) : Option (Int × AMem) := tI (RF 31 2 [vR 116, vI l1, vI l2] [] (SH L) g)
noncomputable def jHo_countWanting (L : Nat) (a1 : Int) (g : AMem) : Option (Int × AMem) := tI (RF 32 0 [vR 116, vI a1, vU, vU] [] (SH L) g)
noncomputable def jHo_countWanting_4 (L : Nat) (l1 : Int) (l2 : Int) (l3 : Int) (g : AMem) : Option (Int × AMem) := tI (RF 32 4 [vR 116, vI l1, vI l2, vI l3] [] (SH L) g)
noncomputable def jHo_ringSize (L : Nat) (a1 : Int) (g : AMem) : Option (Int × AMem) := tI (RF 33 0 [vR 116, vI a1, vU, vU] [] (SH L) g)
noncomputable def jHo_ringSize_4 (L : Nat) (l1 : Int) (l2 : Int) (l3 : Int) (g : AMem) : Option (Int × AMem) := tI (RF 33 4 [vR 116, vI l1, vI l2, vI l3] [] (SH L) g)
noncomputable def jHo_countInRingsOf (L : Nat) (a1 : Int) (g : AMem) : Option (Int × AMem) := tI (RF 34 0 [vR 116, vI a1, vU, vU] [] (SH L) g)
noncomputable def jHo_countInRingsOf_4 (L : Nat) (l1 : Int) (l2 : Int) (l3 : Int) (g : AMem) : Option (Int × AMem) := tI (RF 34 4 [vR 116, vI l1, vI l2, vI l3] [] (SH L) g)
noncomputable def jHo_countRings (L : Nat) (g : AMem) : Option (Int × AMem) := tI (RF 35 0 [vR 116, vU, vU] [] (SH L) g)
noncomputable def jHo_countRings_4 (L : Nat) (l1 : Int) (l2 : Int) (g : AMem) : Option (Int × AMem) := tI (RF 35 4 [vR 116, vI l1, vI l2] [] (SH L) g)
noncomputable def jHo_longestRing (L : Nat) (g : AMem) : Option (Int × AMem) := tI (RF 36 0 [vR 116, vU, vU] [] (SH L) g)
noncomputable def jHo_longestRing_4 (L : Nat) (l1 : Int) (l2 : Int) (g : AMem) : Option (Int × AMem) := tI (RF 36 4 [vR 116, vI l1, vI l2] [] (SH L) g)
noncomputable def jHo_countOpenOutsideRings (L : Nat) (g : AMem) : Option (Int × AMem) := tI (RF 37 0 [vR 116] [] (SH L) g)
noncomputable def jMe_fillBy (L : Nat) (a2 : Int) (g : AMem) : Option (AMem) := tV (RF 39 0 [vR 132, vR 135, vI a2, vU] [] (SH L) g)
noncomputable def jMe_fillBy_7 (L : Nat) (l2 : Int) (l3 : Int) (g : AMem) : Option (AMem) := tV (RF 39 7 [vR 132, vR 135, vI l2, vI l3] [] (SH L) g)
noncomputable def jMe_copy (L : Nat) (a1 : Int) (a2 : Int) (a3 : Int) (g : AMem) : Option (AMem) := tV (RF 40 0 [vR 132, vR a1, vI a2, vI a3, vU, vU] [] (SH L) g)
noncomputable def jMe_copy_9 (L : Nat) (a1 : Int) (l2 : Int) (l3 : Int) (l4 : Int) (l5 : Int) (g : AMem) : Option (AMem) := tV (RF 40 9 [vR 132, vR a1, vI l2, vI l3, vI l4, vI l5] [] (SH L) g)
noncomputable def jMe_put (L : Nat) (a1 : Int) (a2 : Int) (g : AMem) : Option (AMem) := tV (RF 41 0 [vR 132, vI a1, vI a2, vU, vU] [] (SH L) g)
noncomputable def jMe_put_7 (L : Nat) (l1 : Int) (l2 : Int) (l3 : Int) (l4 : Int) (g : AMem) : Option (AMem) := tV (RF 41 7 [vR 132, vI l1, vI l2, vI l3, vI l4] [] (SH L) g)
noncomputable def jMe_exchange (L : Nat) (a1 : Int) (a2 : Int) (g : AMem) : Option (AMem) := tV (RF 42 0 [vR 132, vI a1, vI a2] [] (SH L) g)
noncomputable def jMe_handOver (L : Nat) (t1 : Int) (t2 : Int) (g : AMem) : Option (AMem) := tV (RF 43 0 [vR 132, vR t1, vR t2, vU] [] (SH L) g)
noncomputable def jMe_handOver_17 (L : Nat) (t1 : Int) (t2 : Int) (l3 : Int) (g : AMem) : Option (AMem) := tV (RF 43 17 [vR 132, vR t1, vR t2, vI l3] [] (SH L) g)
noncomputable def jMe_follow (L : Nat) (t1 : Int) (g : AMem) : Option (AMem) := tV (RF 44 0 [vR 132, vR t1, vU] [] (SH L) g)
noncomputable def jMe_follow_2 (L : Nat) (t1 : Int) (l2 : Int) (g : AMem) : Option (AMem) := tV (RF 44 2 [vR 132, vR t1, vI l2] [] (SH L) g)
noncomputable def jMe_hash (L : Nat) (g : AMem) : Option (Int × AMem) := tL (RF 45 0 [vR 132, vU, vU, vU] [] (SH L) g)
noncomputable def jMe_hash_4 (L : Nat) (l1 : Int) (l3 : Int) (g : AMem) : Option (Int × AMem) := tL (RF 45 4 [vR 132, vL l1, vU, vI l3] [] (SH L) g)
noncomputable def jPl_openAll (L : Nat) (t0 : Int) (g : AMem) : Option (AMem) := tV (RF 47 0 [vR t0, vR 116, vU] [] (SH L) g)
noncomputable def jPl_openAll_23 (L : Nat) (t0 : Int) (l2 : Int) (g : AMem) : Option (AMem) := tV (RF 47 23 [vR t0, vR 116, vI l2] [] (SH L) g)
noncomputable def jPl_isWanted (L : Nat) (t0 : Int) (a1 : Int) (g : AMem) : Option (Int × AMem) := tI (RF 48 0 [vR t0, vI a1, vU] [] (SH L) g)
noncomputable def jPl_isWanted_2 (L : Nat) (t0 : Int) (l1 : Int) (l2 : Int) (g : AMem) : Option (Int × AMem) := tI (RF 48 2 [vR t0, vI l1, vI l2] [] (SH L) g)
noncomputable def jPl_leastOpen (L : Nat) (t0 : Int) (a1 : Int) (g : AMem) : Option (Int × AMem) := tI (RF 49 0 [vR t0, vI a1, vU, vU, vU] [] (SH L) g)
noncomputable def jPl_leastOpen_4 (L : Nat) (t0 : Int) (l1 : Int) (l2 : Int) (l3 : Int) (w4 : AVal) (g : AMem) : Option (Int × AMem) := tI (RF 49 4 [vR t0, vI l1, vI l2, vI l3, w4] [] (SH L) g)
noncomputable def jPl_add (L : Nat) (t0 : Int) (a1 : Int) (a2 : Int) (a3 : Int) (g : AMem) : Option (AMem) := tV (RF 50 0 [vR t0, vI a1, vI a2, vI a3] [] (SH L) g)
noncomputable def jPl_close (L : Nat) (t0 : Int) (a1 : Int) (g : AMem) : Option (AMem) := tV (RF 51 0 [vR t0, vI a1] [] (SH L) g)
noncomputable def jPl_moveWhatLies (L : Nat) (t0 : Int) (a1 : Int) (a2 : Int) (g : AMem) : Option (AMem) := tV (RF 52 0 [vR t0, vI a1, vI a2, vU] [] (SH L) g)
noncomputable def jPl_moveWhatLies_2 (L : Nat) (t0 : Int) (l1 : Int) (l2 : Int) (l3 : Int) (g : AMem) : Option (AMem) := tV (RF 52 2 [vR t0, vI l1, vI l2, vI l3] [] (SH L) g)
noncomputable def jPl_moveTo (L : Nat) (t0 : Int) (a1 : Int) (g : AMem) : Option (AMem) := tV (RF 53 0 [vR t0, vI a1, vU] [] (SH L) g)
noncomputable def jPl_openAt (L : Nat) (t0 : Int) (a1 : Int) (g : AMem) : Option (Int × AMem) := tI (RF 54 0 [vR t0, vI a1, vU] [] (SH L) g)
noncomputable def jPl_openAt_2 (L : Nat) (t0 : Int) (l1 : Int) (l2 : Int) (g : AMem) : Option (Int × AMem) := tI (RF 54 2 [vR t0, vI l1, vI l2] [] (SH L) g)
noncomputable def jPl_ringSize (L : Nat) (t0 : Int) (a1 : Int) (g : AMem) : Option (Int × AMem) := tI (RF 55 0 [vR t0, vI a1, vU, vU] [] (SH L) g)
noncomputable def jPl_ringSize_13 (L : Nat) (t0 : Int) (l1 : Int) (l2 : Int) (l3 : Int) (g : AMem) : Option (Int × AMem) := tI (RF 55 13 [vR t0, vI l1, vI l2, vI l3] [] (SH L) g)
noncomputable def jPr_change (L : Nat) (a0 : Int) (a1 : Int) (g : AMem) : Option (Int × AMem) := tI (RF 56 0 [vI a0, vI a1] [] (SH L) g)
noncomputable def jPr_move (L : Nat) (a0 : Int) (a1 : Int) (g : AMem) : Option (Int × AMem) := tI (RF 57 0 [vI a0, vI a1] [] (SH L) g)
noncomputable def jPr_isRingChanged (L : Nat) (a0 : Int) (a1 : Int) (a2 : Int) (g : AMem) : Option (Int × AMem) := tI (RF 58 0 [vI a0, vI a1, vI a2, vU] [] (SH L) g)
noncomputable def jPl_changeRing (L : Nat) (t0 : Int) (a1 : Int) (a2 : Int) (g : AMem) : Option (AMem) := tV (RF 59 0 [vR t0, vI a1, vI a2, vU, vU, vU] [] (SH L) g)
noncomputable def jPl_changeRing_5 (L : Nat) (t0 : Int) (l1 : Int) (l2 : Int) (l3 : Int) (l4 : Int) (w5 : AVal) (g : AMem) : Option (AMem) := tV (RF 59 5 [vR t0, vI l1, vI l2, vI l3, vI l4, w5] [] (SH L) g)
noncomputable def jRg_asTold (L : Nat) (a0 : Int) (a1 : Int) (g : AMem) : Option (Int × AMem) := tI (RF 60 0 [vI a0, vI a1] [] (SH L) g)
noncomputable def jPl_breakRing (L : Nat) (t0 : Int) (a1 : Int) (g : AMem) : Option (AMem) := tV (RF 61 0 [vR t0, vI a1, vU, vU, vU] [] (SH L) g)
noncomputable def jPl_leastSetBehind (L : Nat) (t0 : Int) (a2 : Int) (g : AMem) : Option (Int × AMem) := tI (RF 62 0 [vR t0, vR 116, vI a2, vU, vU, vU] [] (SH L) g)
noncomputable def jPl_leastSetBehind_5 (L : Nat) (t0 : Int) (l2 : Int) (l3 : Int) (l4 : Int) (w5 : AVal) (g : AMem) : Option (Int × AMem) := tI (RF 62 5 [vR t0, vR 116, vI l2, vI l3, vI l4, w5] [] (SH L) g)
noncomputable def jPl_addSettings (L : Nat) (t0 : Int) (g : AMem) : Option (AMem) := tV (RF 63 0 [vR t0, vR 116, vU, vU, vU] [] (SH L) g)
noncomputable def jPl_addSettings_4 (L : Nat) (t0 : Int) (l2 : Int) (l3 : Int) (w4 : AVal) (g : AMem) : Option (AMem) := tV (RF 63 4 [vR t0, vR 116, vI l2, vI l3, w4] [] (SH L) g)
noncomputable def jPl_make (L : Nat) (t0 : Int) (a2 : Int) (g : AMem) : Option (AMem) := tV (RF 64 0 [vR t0, vR 116, vI a2, vU, vU] [] (SH L) g)
noncomputable def jPl_make_17 (L : Nat) (t0 : Int) (l2 : Int) (l3 : Int) (w4 : AVal) (g : AMem) : Option (AMem) := tV (RF 64 17 [vR t0, vR 116, vI l2, vI l3, w4] [] (SH L) g)
noncomputable def jPl_countSort (L : Nat) (t0 : Int) (a1 : Int) (g : AMem) : Option (Int × AMem) := tI (RF 65 0 [vR t0, vI a1, vU, vU] [] (SH L) g)
noncomputable def jPl_countSort_4 (L : Nat) (t0 : Int) (l1 : Int) (l2 : Int) (l3 : Int) (g : AMem) : Option (Int × AMem) := tI (RF 65 4 [vR t0, vI l1, vI l2, vI l3] [] (SH L) g)
noncomputable def jPl_countToSpare (L : Nat) (t0 : Int) (g : AMem) : Option (Int × AMem) := tI (RF 66 0 [vR t0, vU, vU] [] (SH L) g)
noncomputable def jPl_countToSpare_4 (L : Nat) (t0 : Int) (l1 : Int) (l2 : Int) (g : AMem) : Option (Int × AMem) := tI (RF 66 4 [vR t0, vI l1, vI l2] [] (SH L) g)
noncomputable def jPl_price (L : Nat) (t0 : Int) (g : AMem) : Option (Int × AMem) := tI (RF 67 0 [vR t0, vU, vU, vU] [] (SH L) g)
noncomputable def jPl_price_4 (L : Nat) (t0 : Int) (l1 : Int) (l2 : Int) (w3 : AVal) (g : AMem) : Option (Int × AMem) := tI (RF 67 4 [vR t0, vI l1, vI l2, w3] [] (SH L) g)
noncomputable def jPl_isSame (L : Nat) (t0 : Int) (a1 : Int) (t2 : Int) (a3 : Int) (g : AMem) : Option (Int × AMem) := tI (RF 68 0 [vR t0, vI a1, vR t2, vI a3] [] (SH L) g)
noncomputable def jPl_countSameAtEnd (L : Nat) (t0 : Int) (t1 : Int) (g : AMem) : Option (Int × AMem) := tI (RF 69 0 [vR t0, vR t1, vU] [] (SH L) g)
noncomputable def jPl_countSameAtEnd_2 (L : Nat) (t0 : Int) (t1 : Int) (l2 : Int) (g : AMem) : Option (Int × AMem) := tI (RF 69 2 [vR t0, vR t1, vI l2] [] (SH L) g)
noncomputable def jTe_at (L : Nat) (a1 : Int) (g : AMem) : Option (Int × AMem) := tI (RF 71 0 [vR 113, vI a1] [] (SH L) g)
noncomputable def jRe_nextByte_0 (L : Nat) (g : AMem) : Option (Int × AMem) := tI (RF 72 0 [vR 115] [] (SH L) g)
noncomputable def jRe_nextByte (L : Nat) (g : AMem) : Option (Int × AMem) := jRe_nextByte_0 L g
noncomputable def jRe_failAt (L : Nat) (a1 : Int) (g : AMem) : Option (Int × AMem) := tI (RF 73 0 [vR 115, vI a1] [] (SH L) g)
noncomputable def jRe_isFigure (L : Nat) (a0 : Int) (g : AMem) : Option (Int × AMem) := tI (RF 74 0 [vI a0] [] (SH L) g)
noncomputable def jRe_readNumber (L : Nat) (g : AMem) : Option (Int × AMem) := tI (RF 75 0 [vR 115, vU, vU] [] (SH L) g)
noncomputable def jRe_readNumber_4 (L : Nat) (l1 : Int) (l2 : Int) (g : AMem) : Option (Int × AMem) := tI (RF 75 4 [vR 115, vI l1, vI l2] [] (SH L) g)
noncomputable def jRg_isWidth (L : Nat) (a0 : Int) (g : AMem) : Option (Int × AMem) := tI (RF 76 0 [vI a0] [] (SH L) g)
noncomputable def jRg_isRegion (L : Nat) (a0 : Int) (g : AMem) : Option (Int × AMem) := tI (RF 77 0 [vI a0, vU, vU] [] (SH L) g)
noncomputable def jRe_readEnd (L : Nat) (g : AMem) : Option (Int × AMem) := tI (RF 78 0 [vR 115] [] (SH L) g)
noncomputable def jRe_readBlock (L : Nat) (g : AMem) : Option (Int × AMem) := tI (RF 79 0 [vR 115, vU, vU, vU, vU] [] (SH L) g)
noncomputable def jRe_readBlock_40 (L : Nat) (l1 : Int) (l2 : Int) (w3 : AVal) (w4 : AVal) (g : AMem) : Option (Int × AMem) := tI (RF 79 40 [vR 115, vI l1, vI l2, w3, w4] [] (SH L) g)
noncomputable def jRe_readNumberBelow (L : Nat) (a1 : Int) (g : AMem) : Option (Int × AMem) := tI (RF 80 0 [vR 115, vI a1, vU, vU] [] (SH L) g)
noncomputable def jRg_toldConstant (L : Nat) (a0 : Int) (g : AMem) : Option (Int × AMem) := tI (RF 81 0 [vI a0] [] (SH L) g)
noncomputable def jRe_readConstant (L : Nat) (g : AMem) : Option (Int × AMem) := tI (RF 82 0 [vR 115] [] (SH L) g)
noncomputable def jRe_readRegion (L : Nat) (g : AMem) : Option (Int × AMem) := tI (RF 83 0 [vR 115] [] (SH L) g)
noncomputable def jRg_isConstant (L : Nat) (a0 : Int) (g : AMem) : Option (Int × AMem) := tI (RF 84 0 [vI a0] [] (SH L) g)
noncomputable def jRg_isAsWide (L : Nat) (a0 : Int) (a1 : Int) (g : AMem) : Option (Int × AMem) := tI (RF 85 0 [vI a0, vI a1] [] (SH L) g)
noncomputable def jRe_readArguments (L : Nat) (t1 : Int) (t2 : Int) (g : AMem) : Option (Int × AMem) := tI (RF 86 0 [vR 115, vR t1, vR t2, vU, vU, vU, vU] [] (SH L) g)
noncomputable def jRe_readArguments_2 (L : Nat) (t1 : Int) (t2 : Int) (l3 : Int) (w4 : AVal) (w5 : AVal) (w6 : AVal) (g : AMem) : Option (Int × AMem) := tI (RF 86 2 [vR 115, vR t1, vR t2, vI l3, w4, w5, w6] [] (SH L) g)
noncomputable def jRe_readEdge (L : Nat) (g : AMem) : Option (Int × AMem) := tI (RF 87 0 [vR 115, vU, vU, vU, vU] [] (SH L) g)
noncomputable def jRe_readInto (L : Nat) (t1 : Int) (g : AMem) : Option (Int × AMem) := tI (RF 88 0 [vR 115, vR t1, vU, vU, vU] [] (SH L) g)
noncomputable def jRe_readInto_19 (L : Nat) (t1 : Int) (l2 : Int) (w3 : AVal) (w4 : AVal) (g : AMem) : Option (Int × AMem) := tI (RF 88 19 [vR 115, vR t1, vI l2, w3, w4] [] (SH L) g)
noncomputable def jRg_isArgumentFor (L : Nat) (a0 : Int) (a1 : Int) (g : AMem) : Option (Int × AMem) := tI (RF 89 0 [vI a0, vI a1] [] (SH L) g)
noncomputable def jTe_append (L : Nat) (a1 : Int) (g : AMem) : Option (AMem) := tV (RF 91 0 [vR 113, vI a1] [] (SH L) g)
noncomputable def jX_anew (L : Nat) (g : AMem) : Option (Int × AMem) := tI (RF 93 0 [vR 2, vU] [] (SH L) g)
noncomputable def jX_refuse (L : Nat) (a1 : Int) (g : AMem) : Option (Int × AMem) := tI (RF 94 0 [vR 2, vI a1] [] (SH L) g)
noncomputable def jX_block (L : Nat) (g : AMem) : Option (Int × AMem) := tI (RF 95 0 [vR 2] [] (SH L) g)
noncomputable def jX_parameter (L : Nat) (a1 : Int) (a2 : Int) (g : AMem) : Option (Int × AMem) := tI (RF 96 0 [vR 2, vI a1, vI a2] [] (SH L) g)
noncomputable def jX_edge (L : Nat) (a1 : Int) (a2 : Int) (a3 : Int) (g : AMem) : Option (Int × AMem) := tI (RF 97 0 [vR 2, vI a1, vI a2, vI a3] [] (SH L) g)
noncomputable def jX_argument (L : Nat) (a1 : Int) (a2 : Int) (a3 : Int) (g : AMem) : Option (Int × AMem) := tI (RF 98 0 [vR 2, vI a1, vI a2, vI a3, vU] [] (SH L) g)
noncomputable def jX_weight (L : Nat) (a1 : Int) (a2 : Int) (g : AMem) : Option (Int × AMem) := tI (RF 99 0 [vR 2, vI a1, vI a2, vU] [] (SH L) g)
noncomputable def jX_machine (L : Nat) (a1 : Int) (g : AMem) : Option (Int × AMem) := tI (RF 100 0 [vR 2, vI a1, vU] [] (SH L) g)
noncomputable def jX_isClear (L : Nat) (a1 : Int) (g : AMem) : Option (Int × AMem) := tI (RF 101 0 [vR 2, vI a1] [] (SH L) g)
noncomputable def jX_of (L : Nat) (a1 : Int) (a2 : Int) (g : AMem) : Option (Int × AMem) := tI (RF 102 0 [vR 2, vI a1, vI a2] [] (SH L) g)
noncomputable def jX_about (L : Nat) (a1 : Int) (a2 : Int) (g : AMem) : Option (Int × AMem) := tI (RF 103 0 [vR 2, vI a1, vI a2] [] (SH L) g)
noncomputable def jX_region (L : Nat) (a1 : Int) (a2 : Int) (g : AMem) : Option (Int × AMem) := tI (RF 104 0 [vR 2, vI a1, vI a2] [] (SH L) g)
noncomputable def jX_given (L : Nat) (a1 : Int) (a2 : Int) (g : AMem) : Option (Int × AMem) := tI (RF 105 0 [vR 2, vI a1, vI a2] [] (SH L) g)
noncomputable def jX_type (L : Nat) (a1 : Int) (g : AMem) : Option (Int × AMem) := tI (RF 106 0 [vR 2, vI a1] [] (SH L) g)
noncomputable def jX_clear (L : Nat) (g : AMem) : Option (Int × AMem) := tI (RF 107 0 [vR 2, vU] [] (SH L) g)
noncomputable def jX_read (L : Nat) (g : AMem) : Option (Int × AMem) := tI (RF 108 0 [vR 2, vU, vU] [] (SH L) g)
noncomputable def jX_refusalFor (L : Nat) (a1 : Int) (a2 : Int) (g : AMem) : Option (Int × AMem) := tI (RF 109 0 [vR 2, vI a1, vI a2] [] (SH L) g)
noncomputable def jX_makePlan (L : Nat) (t1 : Int) (a2 : Int) (g : AMem) : Option (AMem) := tV (RF 110 0 [vR 2, vR t1, vI a2] [] (SH L) g)
noncomputable def jX_steps (L : Nat) (a1 : Int) (a2 : Int) (g : AMem) : Option (Int × AMem) := tI (RF 111 0 [vR 2, vI a1, vI a2, vU] [] (SH L) g)
noncomputable def jX_step (L : Nat) (a1 : Int) (a2 : Int) (a3 : Int) (g : AMem) : Option (Int × AMem) := tI (RF 112 0 [vR 2, vI a1, vI a2, vI a3, vU] [] (SH L) g)
noncomputable def jX_cost (L : Nat) (a1 : Int) (g : AMem) : Option (Int × AMem) := tI (RF 113 0 [vR 2, vI a1, vU] [] (SH L) g)
noncomputable def jX_rings (L : Nat) (a1 : Int) (a2 : Int) (g : AMem) : Option (Int × AMem) := tI (RF 114 0 [vR 2, vI a1, vI a2, vU] [] (SH L) g)
noncomputable def jX_priceBy (L : Nat) (a1 : Int) (a2 : Int) (g : AMem) : Option (Int × AMem) := tI (RF 115 0 [vR 2, vI a1, vI a2] [] (SH L) g)
noncomputable def jX_cheapest (L : Nat) (a1 : Int) (a2 : Int) (g : AMem) : Option (Int × AMem) := tI (RF 116 0 [vR 2, vI a1, vI a2, vU, vU, vU, vU, vU] [] (SH L) g)
noncomputable def jX_cheapest_35 (L : Nat) (l1 : Int) (l2 : Int) (l3 : Int) (l4 : Int) (l5 : Int) (l6 : Int) (w7 : AVal) (g : AMem) : Option (Int × AMem) := tI (RF 116 35 [vR 2, vI l1, vI l2, vI l3, vI l4, vI l5, vI l6, w7] [] (SH L) g)
noncomputable def jX_free (L : Nat) (a1 : Int) (a2 : Int) (g : AMem) : Option (Int × AMem) := tI (RF 117 0 [vR 2, vI a1, vI a2, vU, vU] [] (SH L) g)
noncomputable def jX_free_52 (L : Nat) (l1 : Int) (l2 : Int) (l3 : Int) (w4 : AVal) (g : AMem) : Option (Int × AMem) := tI (RF 117 52 [vR 2, vI l1, vI l2, vI l3, w4] [] (SH L) g)
noncomputable def jX_allClearTo (L : Nat) (a1 : Int) (g : AMem) : Option (Int × AMem) := tI (RF 118 0 [vR 2, vI a1, vU] [] (SH L) g)
noncomputable def jX_allClearTo_2 (L : Nat) (l1 : Int) (l2 : Int) (g : AMem) : Option (Int × AMem) := tI (RF 118 2 [vR 2, vI l1, vI l2] [] (SH L) g)
noncomputable def jX_tail (L : Nat) (a1 : Int) (g : AMem) : Option (Int × AMem) := tI (RF 119 0 [vR 2, vI a1, vU, vU, vU] [] (SH L) g)
noncomputable def jX_tail_42 (L : Nat) (l1 : Int) (l2 : Int) (l3 : Int) (l4 : Int) (g : AMem) : Option (Int × AMem) := tI (RF 119 42 [vR 2, vI l1, vI l2, vI l3, vI l4] [] (SH L) g)
noncomputable def jX_run (L : Nat) (a1 : Int) (a2 : Int) (a3 : Int) (g : AMem) : Option (Int × AMem) := tL (RF 120 0 [vR 2, vI a1, vI a2, vI a3, vU] [] (SH L) g)
noncomputable def jX_shareOfWhole (L : Nat) (a1 : Int) (a2 : Int) (g : AMem) : Option (Int × AMem) := tI (RF 121 0 [vR 2, vI a1, vI a2] [] (SH L) g)
noncomputable def jX_whole (L : Nat) (a1 : Int) (g : AMem) : Option (Int × AMem) := tI (RF 122 0 [vR 2, vI a1, vU, vU] [] (SH L) g)
noncomputable def jX_whole_20 (L : Nat) (l1 : Int) (l2 : Int) (l3 : Int) (g : AMem) : Option (Int × AMem) := tI (RF 122 20 [vR 2, vI l1, vI l2, vI l3] [] (SH L) g)
noncomputable def jX_weighedPrice (L : Nat) (a1 : Int) (g : AMem) : Option (Int × AMem) := tI (RF 123 0 [vR 2, vI a1] [] (SH L) g)
noncomputable def jX_dearest (L : Nat) (g : AMem) : Option (Int × AMem) := tI (RF 124 0 [vR 2, vU, vU, vU] [] (SH L) g)
noncomputable def jX_dearest_8 (L : Nat) (l1 : Int) (l2 : Int) (l3 : Int) (g : AMem) : Option (Int × AMem) := tI (RF 124 8 [vR 2, vI l1, vI l2, vI l3] [] (SH L) g)
noncomputable def jAr_fill (L : Nat) (a1 : Int) (g : AMem) : Option (AMem) := tV (RF 125 0 [vR 136, vI a1, vU, vU] [] (SH L) g)
noncomputable def jAr_fill_5 (L : Nat) (l1 : Int) (l2 : Int) (l3 : Int) (g : AMem) : Option (AMem) := tV (RF 125 5 [vR 136, vI l1, vI l2, vI l3] [] (SH L) g)
noncomputable def jX_goOneFurther (L : Nat) (a1 : Int) (g : AMem) : Option (AMem) := tV (RF 126 0 [vR 2, vI a1, vU, vU] [] (SH L) g)
noncomputable def jX_goOneFurther_2 (L : Nat) (l1 : Int) (l2 : Int) (w3 : AVal) (g : AMem) : Option (AMem) := tV (RF 126 2 [vR 2, vI l1, vI l2, w3] [] (SH L) g)
noncomputable def jX_reach (L : Nat) (a1 : Int) (a2 : Int) (g : AMem) : Option (Int × AMem) := tI (RF 127 0 [vR 2, vI a1, vI a2, vU] [] (SH L) g)
noncomputable def jX_reach_49 (L : Nat) (l1 : Int) (l2 : Int) (l3 : Int) (g : AMem) : Option (Int × AMem) := tI (RF 127 49 [vR 2, vI l1, vI l2, vI l3] [] (SH L) g)
noncomputable def jX_drawBlock (L : Nat) (a1 : Int) (g : AMem) : Option (AMem) := tV (RF 128 0 [vR 2, vI a1, vU, vU, vU] [] (SH L) g)
noncomputable def jX_drawBlock_10 (L : Nat) (l1 : Int) (l2 : Int) (l3 : Int) (w4 : AVal) (g : AMem) : Option (AMem) := tV (RF 128 10 [vR 2, vI l1, vI l2, vI l3, w4] [] (SH L) g)
noncomputable def jX_drawEdge (L : Nat) (g : AMem) : Option (AMem) := tV (RF 129 0 [vR 2, vU, vU, vU, vU, vU, vU] [] (SH L) g)
noncomputable def jX_drawEdge_64 (L : Nat) (l1 : Int) (l2 : Int) (l3 : Int) (r4 : Int) (l5 : Int) (w6 : AVal) (g : AMem) : Option (AMem) := tV (RF 129 64 [vR 2, vI l1, vI l2, vI l3, vR r4, vI l5, w6] [] (SH L) g)
noncomputable def jX_draw (L : Nat) (a1 : Int) (a2 : Int) (a3 : Int) (g : AMem) : Option (Int × AMem) := tI (RF 130 0 [vR 2, vI a1, vI a2, vI a3, vU] [] (SH L) g)
noncomputable def jX_draw_53 (L : Nat) (l1 : Int) (l2 : Int) (l3 : Int) (l4 : Int) (g : AMem) : Option (Int × AMem) := tI (RF 130 53 [vR 2, vI l1, vI l2, vI l3, vI l4] [] (SH L) g)
noncomputable def jX_draw_74 (L : Nat) (l1 : Int) (l2 : Int) (l3 : Int) (l4 : Int) (g : AMem) : Option (Int × AMem) := tI (RF 130 74 [vR 2, vI l1, vI l2, vI l3, vI l4] [] (SH L) g)
noncomputable def jX_standing (L : Nat) (a1 : Int) (g : AMem) : Option (Int × AMem) := tI (RF 131 0 [vR 2, vI a1] [] (SH L) g)
noncomputable def jX_told (L : Nat) (a1 : Int) (g : AMem) : Option (Int × AMem) := tI (RF 132 0 [vR 2, vI a1] [] (SH L) g)
noncomputable def jX_digest (L : Nat) (g : AMem) : Option (Int × AMem) := tL (RF 133 0 [vR 2, vU, vU, vU] [] (SH L) g)
noncomputable def jX_digest_6 (L : Nat) (l1 : Int) (l3 : Int) (g : AMem) : Option (Int × AMem) := tL (RF 133 6 [vR 2, vL l1, vU, vI l3] [] (SH L) g)
noncomputable def jX_digest_33 (L : Nat) (l1 : Int) (l3 : Int) (g : AMem) : Option (Int × AMem) := tL (RF 133 33 [vR 2, vL l1, vU, vI l3] [] (SH L) g)
noncomputable def jX_digest_66 (L : Nat) (l1 : Int) (l3 : Int) (g : AMem) : Option (Int × AMem) := tL (RF 133 66 [vR 2, vL l1, vU, vI l3] [] (SH L) g)
noncomputable def jM_bad (L : Nat) (g : AMem) : Option (Int × AMem) := tI (RF 135 0 [vR 137] [] (SH L) g)
noncomputable def jM_no (L : Nat) (g : AMem) : Option (Int × AMem) := tI (RF 136 0 [vR 137] [] (SH L) g)
noncomputable def jM_full (L : Nat) (g : AMem) : Option (Int × AMem) := tI (RF 137 0 [vR 137] [] (SH L) g)
noncomputable def jM_in (L : Nat) (a0 : Int) (a1 : Int) (a2 : Int) (g : AMem) : Option (Int × AMem) := tI (RF 138 0 [vI a0, vI a1, vI a2] [] (SH L) g)
noncomputable def jM_widthOf (L : Nat) (a0 : Int) (g : AMem) : Option (Int × AMem) := tI (RF 139 0 [vI a0] [] (SH L) g)
noncomputable def jM_byteOf (L : Nat) (a0 : Int) (g : AMem) : Option (Int × AMem) := tI (RF 140 0 [vI a0] [] (SH L) g)
noncomputable def jM_isWidth (L : Nat) (a0 : Int) (g : AMem) : Option (Int × AMem) := tI (RF 141 0 [vI a0] [] (SH L) g)
noncomputable def jM_isRegion (L : Nat) (a0 : Int) (g : AMem) : Option (Int × AMem) := tI (RF 142 0 [vI a0] [] (SH L) g)
noncomputable def jM_meet (L : Nat) (a0 : Int) (a1 : Int) (g : AMem) : Option (Int × AMem) := tI (RF 143 0 [vI a0, vI a1] [] (SH L) g)
noncomputable def jM_across (L : Nat) (a0 : Int) (a1 : Int) (g : AMem) : Option (Int × AMem) := tI (RF 144 0 [vI a0, vI a1] [] (SH L) g)
noncomputable def jM_isBlock (L : Nat) (a1 : Int) (g : AMem) : Option (Int × AMem) := tI (RF 145 0 [vR 137, vI a1] [] (SH L) g)
noncomputable def jM_isEdge (L : Nat) (a1 : Int) (g : AMem) : Option (Int × AMem) := tI (RF 146 0 [vR 137, vI a1] [] (SH L) g)
noncomputable def jM_parameterOf (L : Nat) (a1 : Int) (a2 : Int) (g : AMem) : Option (Int × AMem) := tI (RF 147 0 [vR 137, vI a1, vI a2] [] (SH L) g)
noncomputable def jM_manyOf (L : Nat) (a1 : Int) (g : AMem) : Option (Int × AMem) := tI (RF 148 0 [vR 137, vI a1] [] (SH L) g)
noncomputable def jM_givenOf (L : Nat) (a1 : Int) (a2 : Int) (g : AMem) : Option (Int × AMem) := tI (RF 149 0 [vR 137, vI a1, vI a2] [] (SH L) g)
noncomputable def jM_anew (L : Nat) (g : AMem) : Option (Int × AMem) := tI (RF 150 0 [vR 137, vU] [] (SH L) g)
noncomputable def jM_newBlock (L : Nat) (g : AMem) : Option (Int × AMem) := tI (RF 151 0 [vR 137] [] (SH L) g)
noncomputable def jM_block (L : Nat) (g : AMem) : Option (Int × AMem) := tI (RF 152 0 [vR 137] [] (SH L) g)
noncomputable def jM_isTaken (L : Nat) (a1 : Int) (a2 : Int) (g : AMem) : Option (Int × AMem) := tI (RF 153 0 [vR 137, vI a1, vI a2, vU, vU] [] (SH L) g)
noncomputable def jM_isTaken_5 (L : Nat) (l1 : Int) (l2 : Int) (l3 : Int) (l4 : Int) (g : AMem) : Option (Int × AMem) := tI (RF 153 5 [vR 137, vI l1, vI l2, vI l3, vI l4] [] (SH L) g)
noncomputable def jM_newParameter (L : Nat) (a1 : Int) (a2 : Int) (g : AMem) : Option (Int × AMem) := tI (RF 154 0 [vR 137, vI a1, vI a2, vU, vU] [] (SH L) g)
noncomputable def jM_newParameter_32 (L : Nat) (l1 : Int) (l2 : Int) (l3 : Int) (l4 : Int) (g : AMem) : Option (Int × AMem) := tI (RF 154 32 [vR 137, vI l1, vI l2, vI l3, vI l4] [] (SH L) g)
noncomputable def jM_parameter (L : Nat) (a1 : Int) (a2 : Int) (g : AMem) : Option (Int × AMem) := tI (RF 155 0 [vR 137, vI a1, vI a2] [] (SH L) g)
noncomputable def jM_newEdge (L : Nat) (a1 : Int) (a2 : Int) (a3 : Int) (g : AMem) : Option (Int × AMem) := tI (RF 156 0 [vR 137, vI a1, vI a2, vI a3, vU, vU] [] (SH L) g)
noncomputable def jM_newEdge_33 (L : Nat) (l1 : Int) (l2 : Int) (l3 : Int) (l4 : Int) (l5 : Int) (g : AMem) : Option (Int × AMem) := tI (RF 156 33 [vR 137, vI l1, vI l2, vI l3, vI l4, vI l5] [] (SH L) g)
noncomputable def jM_edge (L : Nat) (a1 : Int) (a2 : Int) (a3 : Int) (g : AMem) : Option (Int × AMem) := tI (RF 157 0 [vR 137, vI a1, vI a2, vI a3] [] (SH L) g)
noncomputable def jM_mayBeGiven (L : Nat) (a1 : Int) (a2 : Int) (a3 : Int) (g : AMem) : Option (Int × AMem) := tI (RF 158 0 [vR 137, vI a1, vI a2, vI a3] [] (SH L) g)
noncomputable def jM_argument (L : Nat) (a1 : Int) (a2 : Int) (a3 : Int) (g : AMem) : Option (Int × AMem) := tI (RF 159 0 [vR 137, vI a1, vI a2, vI a3, vU] [] (SH L) g)
noncomputable def jM_weight (L : Nat) (a1 : Int) (a2 : Int) (g : AMem) : Option (Int × AMem) := tI (RF 160 0 [vR 137, vI a1, vI a2, vU] [] (SH L) g)
noncomputable def jM_machine (L : Nat) (a1 : Int) (g : AMem) : Option (Int × AMem) := tI (RF 161 0 [vR 137, vI a1, vU] [] (SH L) g)
noncomputable def jM_edgesFrom (L : Nat) (a1 : Int) (g : AMem) : Option (Int × AMem) := tI (RF 162 0 [vR 137, vI a1, vU, vU] [] (SH L) g)
noncomputable def jM_edgesFrom_4 (L : Nat) (l1 : Int) (l2 : Int) (l3 : Int) (g : AMem) : Option (Int × AMem) := tI (RF 162 4 [vR 137, vI l1, vI l2, vI l3] [] (SH L) g)
noncomputable def jM_edgesTo (L : Nat) (a1 : Int) (g : AMem) : Option (Int × AMem) := tI (RF 163 0 [vR 137, vI a1, vU, vU] [] (SH L) g)
noncomputable def jM_edgesTo_4 (L : Nat) (l1 : Int) (l2 : Int) (l3 : Int) (g : AMem) : Option (Int × AMem) := tI (RF 163 4 [vR 137, vI l1, vI l2, vI l3] [] (SH L) g)
noncomputable def jM_whereOf (L : Nat) (a1 : Int) (g : AMem) : Option (Int × AMem) := tI (RF 164 0 [vR 137, vI a1] [] (SH L) g)
noncomputable def jM_moves (L : Nat) (a1 : Int) (a2 : Int) (g : AMem) : Option (Int × AMem) := tI (RF 165 0 [vR 137, vI a1, vI a2] [] (SH L) g)
noncomputable def jM_isAcross (L : Nat) (a1 : Int) (a2 : Int) (g : AMem) : Option (Int × AMem) := tI (RF 166 0 [vR 137, vI a1, vI a2, vU, vU, vU] [] (SH L) g)
noncomputable def jM_isAcross_5 (L : Nat) (l1 : Int) (l2 : Int) (l3 : Int) (l4 : Int) (w5 : AVal) (g : AMem) : Option (Int × AMem) := tI (RF 166 5 [vR 137, vI l1, vI l2, vI l3, vI l4, w5] [] (SH L) g)
noncomputable def jM_isClear (L : Nat) (a1 : Int) (g : AMem) : Option (Int × AMem) := tI (RF 167 0 [vR 137, vI a1, vU, vU] [] (SH L) g)
noncomputable def jM_isClear_4 (L : Nat) (l1 : Int) (l2 : Int) (l3 : Int) (g : AMem) : Option (Int × AMem) := tI (RF 167 4 [vR 137, vI l1, vI l2, vI l3] [] (SH L) g)
noncomputable def jM_of (L : Nat) (a1 : Int) (a2 : Int) (g : AMem) : Option (Int × AMem) := tI (RF 168 0 [vR 137, vI a1, vI a2] [] (SH L) g)
noncomputable def jM_about (L : Nat) (a1 : Int) (a2 : Int) (g : AMem) : Option (Int × AMem) := tI (RF 169 0 [vR 137, vI a1, vI a2] [] (SH L) g)
noncomputable def jM_region (L : Nat) (a1 : Int) (a2 : Int) (g : AMem) : Option (Int × AMem) := tI (RF 170 0 [vR 137, vI a1, vI a2] [] (SH L) g)
noncomputable def jM_given (L : Nat) (a1 : Int) (a2 : Int) (g : AMem) : Option (Int × AMem) := tI (RF 171 0 [vR 137, vI a1, vI a2] [] (SH L) g)
noncomputable def jM_moveCost (L : Nat) (a0 : Int) (a1 : Int) (g : AMem) : Option (Int × AMem) := tI (RF 172 0 [vI a0, vI a1] [] (SH L) g)
noncomputable def jM_changeCost (L : Nat) (a0 : Int) (a1 : Int) (g : AMem) : Option (Int × AMem) := tI (RF 173 0 [vI a0, vI a1] [] (SH L) g)
noncomputable def jM_comes (L : Nat) (a1 : Int) (a2 : Int) (a3 : Int) (g : AMem) : Option (AMem) := tV (RF 174 0 [vR 137, vI a1, vI a2, vI a3] [] (SH L) g)
noncomputable def jM_isWanted (L : Nat) (a1 : Int) (a2 : Int) (g : AMem) : Option (Int × AMem) := tI (RF 175 0 [vR 137, vI a1, vI a2, vU, vU] [] (SH L) g)
noncomputable def jM_isWanted_5 (L : Nat) (l1 : Int) (l2 : Int) (l3 : Int) (l4 : Int) (g : AMem) : Option (Int × AMem) := tI (RF 175 5 [vR 137, vI l1, vI l2, vI l3, vI l4] [] (SH L) g)
noncomputable def jM_openMany (L : Nat) (a1 : Int) (g : AMem) : Option (Int × AMem) := tI (RF 176 0 [vR 137, vI a1, vU, vU] [] (SH L) g)
noncomputable def jM_openMany_4 (L : Nat) (l1 : Int) (l2 : Int) (l3 : Int) (g : AMem) : Option (Int × AMem) := tI (RF 176 4 [vR 137, vI l1, vI l2, vI l3] [] (SH L) g)
noncomputable def jM_leastOpen (L : Nat) (a1 : Int) (a2 : Int) (g : AMem) : Option (Int × AMem) := tI (RF 177 0 [vR 137, vI a1, vI a2, vU, vU, vU, vU] [] (SH L) g)
noncomputable def jM_leastOpen_14 (L : Nat) (l1 : Int) (l2 : Int) (l3 : Int) (l4 : Int) (l5 : Int) (w6 : AVal) (g : AMem) : Option (Int × AMem) := tI (RF 177 14 [vR 137, vI l1, vI l2, vI l3, vI l4, vI l5, w6] [] (SH L) g)
noncomputable def jM_whoHas (L : Nat) (a1 : Int) (a2 : Int) (g : AMem) : Option (Int × AMem) := tI (RF 178 0 [vR 137, vI a1, vI a2, vU, vU] [] (SH L) g)
noncomputable def jM_whoHas_7 (L : Nat) (l1 : Int) (l2 : Int) (l3 : Int) (l4 : Int) (g : AMem) : Option (Int × AMem) := tI (RF 178 7 [vR 137, vI l1, vI l2, vI l3, vI l4] [] (SH L) g)
noncomputable def jM_lies (L : Nat) (a1 : Int) (a2 : Int) (a3 : Int) (g : AMem) : Option (AMem) := tV (RF 179 0 [vR 137, vI a1, vI a2, vI a3, vU] [] (SH L) g)
noncomputable def jM_lies_3 (L : Nat) (l1 : Int) (l2 : Int) (l3 : Int) (l4 : Int) (g : AMem) : Option (AMem) := tV (RF 179 3 [vR 137, vI l1, vI l2, vI l3, vI l4] [] (SH L) g)
noncomputable def jM_movesTo (L : Nat) (a1 : Int) (a2 : Int) (g : AMem) : Option (AMem) := tV (RF 180 0 [vR 137, vI a1, vI a2, vU, vU] [] (SH L) g)
noncomputable def jM_breaks (L : Nat) (a1 : Int) (a2 : Int) (a3 : Int) (g : AMem) : Option (AMem) := tV (RF 181 0 [vR 137, vI a1, vI a2, vI a3, vU, vU, vU, vU, vU, vU] [] (SH L) g)
noncomputable def jM_breaks_31 (L : Nat) (l1 : Int) (l2 : Int) (l3 : Int) (l4 : Int) (l5 : Int) (l6 : Int) (l7 : Int) (g : AMem) : Option (AMem) := tV (RF 181 31 [vR 137, vI l1, vI l2, vI l3, vI l4, vI l5, vI l6, vI l7, vU, vU] [] (SH L) g)
noncomputable def jM_breaks_124 (L : Nat) (l1 : Int) (l2 : Int) (l3 : Int) (l4 : Int) (l5 : Int) (l6 : Int) (l7 : Int) (l8 : Int) (l9 : Int) (g : AMem) : Option (AMem) := tV (RF 181 124 [vR 137, vI l1, vI l2, vI l3, vI l4, vI l5, vI l6, vI l7, vI l8, vI l9] [] (SH L) g)
noncomputable def jM_setOpen (L : Nat) (a1 : Int) (g : AMem) : Option (AMem) := tV (RF 182 0 [vR 137, vI a1, vU] [] (SH L) g)
noncomputable def jM_setOpen_2 (L : Nat) (l1 : Int) (l2 : Int) (g : AMem) : Option (AMem) := tV (RF 182 2 [vR 137, vI l1, vI l2] [] (SH L) g)
noncomputable def jM_setSteps (L : Nat) (a1 : Int) (a2 : Int) (g : AMem) : Option (AMem) := tV (RF 183 0 [vR 137, vI a1, vI a2, vU, vU, vU] [] (SH L) g)
noncomputable def jM_setSteps_16 (L : Nat) (l1 : Int) (l2 : Int) (l3 : Int) (w4 : AVal) (g : AMem) : Option (AMem) := tV (RF 183 16 [vR 137, vI l1, vI l2, vI l3, w4, vU] [] (SH L) g)
noncomputable def jM_setSteps_68 (L : Nat) (l1 : Int) (l2 : Int) (l3 : Int) (l4 : Int) (w5 : AVal) (g : AMem) : Option (AMem) := tV (RF 183 68 [vR 137, vI l1, vI l2, vI l3, vI l4, w5] [] (SH L) g)
noncomputable def jM_setSteps_78 (L : Nat) (l1 : Int) (l2 : Int) (l3 : Int) (l4 : Int) (l5 : Int) (g : AMem) : Option (AMem) := tV (RF 183 78 [vR 137, vI l1, vI l2, vI l3, vI l4, vI l5] [] (SH L) g)
noncomputable def jM_costBy (L : Nat) (a1 : Int) (a2 : Int) (g : AMem) : Option (Int × AMem) := tI (RF 184 0 [vR 137, vI a1, vI a2, vU, vU, vU] [] (SH L) g)
noncomputable def jM_costBy_11 (L : Nat) (l1 : Int) (l2 : Int) (l3 : Int) (l4 : Int) (w5 : AVal) (g : AMem) : Option (Int × AMem) := tI (RF 184 11 [vR 137, vI l1, vI l2, vI l3, vI l4, w5] [] (SH L) g)
noncomputable def jM_counted (L : Nat) (a1 : Int) (g : AMem) : Option (Int × AMem) := tI (RF 185 0 [vR 137, vI a1, vU, vU, vU] [] (SH L) g)
noncomputable def jM_counted_4 (L : Nat) (l1 : Int) (l2 : Int) (l3 : Int) (w4 : AVal) (g : AMem) : Option (Int × AMem) := tI (RF 185 4 [vR 137, vI l1, vI l2, vI l3, w4] [] (SH L) g)
noncomputable def jM_steps (L : Nat) (a1 : Int) (a2 : Int) (g : AMem) : Option (Int × AMem) := tI (RF 186 0 [vR 137, vI a1, vI a2] [] (SH L) g)
noncomputable def jM_step (L : Nat) (a1 : Int) (a2 : Int) (a3 : Int) (g : AMem) : Option (Int × AMem) := tI (RF 187 0 [vR 137, vI a1, vI a2, vI a3] [] (SH L) g)
noncomputable def jM_cost (L : Nat) (a1 : Int) (g : AMem) : Option (Int × AMem) := tI (RF 188 0 [vR 137, vI a1] [] (SH L) g)
noncomputable def jM_wantedTimes (L : Nat) (a1 : Int) (a2 : Int) (g : AMem) : Option (Int × AMem) := tI (RF 189 0 [vR 137, vI a1, vI a2, vU, vU] [] (SH L) g)
noncomputable def jM_wantedTimes_5 (L : Nat) (l1 : Int) (l2 : Int) (l3 : Int) (l4 : Int) (g : AMem) : Option (Int × AMem) := tI (RF 189 5 [vR 137, vI l1, vI l2, vI l3, vI l4] [] (SH L) g)
noncomputable def jM_ringOf (L : Nat) (a1 : Int) (a2 : Int) (g : AMem) : Option (Int × AMem) := tI (RF 190 0 [vR 137, vI a1, vI a2, vU, vU, vU, vU] [] (SH L) g)
noncomputable def jM_ringOf_8 (L : Nat) (l1 : Int) (l2 : Int) (l3 : Int) (l4 : Int) (l5 : Int) (w6 : AVal) (g : AMem) : Option (Int × AMem) := tI (RF 190 8 [vR 137, vI l1, vI l2, vI l3, vI l4, vI l5, w6] [] (SH L) g)
noncomputable def jM_rings (L : Nat) (a1 : Int) (a2 : Int) (g : AMem) : Option (Int × AMem) := tI (RF 191 0 [vR 137, vI a1, vI a2, vU, vU, vU, vU, vU] [] (SH L) g)
noncomputable def jM_rings_51 (L : Nat) (l1 : Int) (l2 : Int) (l3 : Int) (l4 : Int) (l5 : Int) (l6 : Int) (w7 : AVal) (g : AMem) : Option (Int × AMem) := tI (RF 191 51 [vR 137, vI l1, vI l2, vI l3, vI l4, vI l5, vI l6, w7] [] (SH L) g)
noncomputable def jM_cheapest (L : Nat) (a1 : Int) (a2 : Int) (g : AMem) : Option (Int × AMem) := tI (RF 192 0 [vR 137, vI a1, vI a2, vU, vU, vU, vU] [] (SH L) g)
noncomputable def jM_cheapest_46 (L : Nat) (l1 : Int) (l2 : Int) (l3 : Int) (l4 : Int) (l5 : Int) (w6 : AVal) (g : AMem) : Option (Int × AMem) := tI (RF 192 46 [vR 137, vI l1, vI l2, vI l3, vI l4, vI l5, w6] [] (SH L) g)
noncomputable def jM_free (L : Nat) (a1 : Int) (a2 : Int) (g : AMem) : Option (Int × AMem) := tI (RF 193 0 [vR 137, vI a1, vI a2, vU, vU, vU] [] (SH L) g)
noncomputable def jM_free_22 (L : Nat) (l1 : Int) (l2 : Int) (l3 : Int) (w4 : AVal) (w5 : AVal) (g : AMem) : Option (Int × AMem) := tI (RF 193 22 [vR 137, vI l1, vI l2, vI l3, w4, w5] [] (SH L) g)
noncomputable def jM_free_34 (L : Nat) (l1 : Int) (l2 : Int) (l3 : Int) (l4 : Int) (l5 : Int) (g : AMem) : Option (Int × AMem) := tI (RF 193 34 [vR 137, vI l1, vI l2, vI l3, vI l4, vI l5] [] (SH L) g)
noncomputable def jM_asOther (L : Nat) (g : AMem) : Option (AMem) := tV (RF 194 0 [vR 137, vU] [] (SH L) g)
noncomputable def jM_asOther_10 (L : Nat) (l1 : Int) (g : AMem) : Option (AMem) := tV (RF 194 10 [vR 137, vI l1] [] (SH L) g)
noncomputable def jM_sameBack (L : Nat) (g : AMem) : Option (Int × AMem) := tI (RF 195 0 [vR 137, vU, vU, vU, vU] [] (SH L) g)
noncomputable def jM_sameBack_4 (L : Nat) (l1 : Int) (l2 : Int) (w3 : AVal) (w4 : AVal) (g : AMem) : Option (Int × AMem) := tI (RF 195 4 [vR 137, vI l1, vI l2, w3, w4] [] (SH L) g)
noncomputable def jM_tail (L : Nat) (a1 : Int) (g : AMem) : Option (Int × AMem) := tI (RF 196 0 [vR 137, vI a1, vU, vU, vU, vU, vU] [] (SH L) g)
noncomputable def jM_tail_17 (L : Nat) (l1 : Int) (l2 : Int) (l3 : Int) (g : AMem) : Option (Int × AMem) := tI (RF 196 17 [vR 137, vI l1, vI l2, vI l3, vU, vU, vU] [] (SH L) g)
noncomputable def jM_tail_76 (L : Nat) (l1 : Int) (l2 : Int) (l3 : Int) (l4 : Int) (l5 : Int) (w6 : AVal) (g : AMem) : Option (Int × AMem) := tI (RF 196 76 [vR 137, vI l1, vI l2, vI l3, vI l4, vI l5, w6] [] (SH L) g)
noncomputable def jM_next (L : Nat) (a0 : Int) (g : AMem) : Option (Int × AMem) := tL (RF 197 0 [vL a0, vU] [] (SH L) g)
noncomputable def jM_beginOf (L : Nat) (a0 : Int) (g : AMem) : Option (Int × AMem) := tI (RF 198 0 [vI a0] [] (SH L) g)
noncomputable def jM_puts (L : Nat) (a1 : Int) (a2 : Int) (g : AMem) : Option (AMem) := tV (RF 199 0 [vR 137, vI a1, vI a2, vU] [] (SH L) g)
noncomputable def jM_puts_2 (L : Nat) (l1 : Int) (l2 : Int) (l3 : Int) (g : AMem) : Option (AMem) := tV (RF 199 2 [vR 137, vI l1, vI l2, vI l3] [] (SH L) g)
noncomputable def jM_stepsOn (L : Nat) (a1 : Int) (g : AMem) : Option (AMem) := tV (RF 200 0 [vR 137, vI a1, vU, vU, vU, vU] [] (SH L) g)
noncomputable def jM_stepsOn_52 (L : Nat) (l1 : Int) (l2 : Int) (l3 : Int) (l4 : Int) (w5 : AVal) (g : AMem) : Option (AMem) := tV (RF 200 52 [vR 137, vI l1, vI l2, vI l3, vI l4, w5] [] (SH L) g)
noncomputable def jM_handsOver (L : Nat) (a1 : Int) (g : AMem) : Option (AMem) := tV (RF 201 0 [vR 137, vI a1, vU, vU, vU, vU] [] (SH L) g)
noncomputable def jM_handsOver_2 (L : Nat) (l1 : Int) (l2 : Int) (g : AMem) : Option (AMem) := tV (RF 201 2 [vR 137, vI l1, vI l2, vU, vU, vU] [] (SH L) g)
noncomputable def jM_handsOver_28 (L : Nat) (l1 : Int) (l2 : Int) (w3 : AVal) (w4 : AVal) (w5 : AVal) (g : AMem) : Option (AMem) := tV (RF 201 28 [vR 137, vI l1, vI l2, w3, w4, w5] [] (SH L) g)
noncomputable def jM_handsOver_72 (L : Nat) (l1 : Int) (l2 : Int) (l3 : Int) (l4 : Int) (l5 : Int) (g : AMem) : Option (AMem) := tV (RF 201 72 [vR 137, vI l1, vI l2, vI l3, vI l4, vI l5] [] (SH L) g)
noncomputable def jM_run (L : Nat) (a1 : Int) (a2 : Int) (a3 : Int) (g : AMem) : Option (Int × AMem) := tL (RF 202 0 [vR 137, vI a1, vI a2, vI a3, vU, vU, vU, vU, vU] [] (SH L) g)
noncomputable def jM_run_54 (L : Nat) (l1 : Int) (l2 : Int) (l3 : Int) (l4 : Int) (l6 : Int) (g : AMem) : Option (Int × AMem) := tL (RF 202 54 [vR 137, vI l1, vI l2, vI l3, vL l4, vU, vI l6, vU, vU] [] (SH L) g)
noncomputable def jM_run_116 (L : Nat) (l1 : Int) (l2 : Int) (l3 : Int) (l4 : Int) (l6 : Int) (g : AMem) : Option (Int × AMem) := tL (RF 202 116 [vR 137, vI l1, vI l2, vI l3, vL l4, vU, vI l6, vU, vU] [] (SH L) g)
noncomputable def jM_run_143 (L : Nat) (l1 : Int) (l2 : Int) (l3 : Int) (l4 : Int) (l6 : Int) (l8 : Int) (g : AMem) : Option (Int × AMem) := tL (RF 202 143 [vR 137, vI l1, vI l2, vI l3, vL l4, vU, vL l6, vU, vI l8] [] (SH L) g)
noncomputable def jM_whole (L : Nat) (a1 : Int) (g : AMem) : Option (Int × AMem) := tI (RF 203 0 [vR 137, vI a1, vU, vU, vU, vU, vU] [] (SH L) g)
noncomputable def jM_whole_18 (L : Nat) (l1 : Int) (l2 : Int) (l3 : Int) (w4 : AVal) (w5 : AVal) (w6 : AVal) (g : AMem) : Option (Int × AMem) := tI (RF 203 18 [vR 137, vI l1, vI l2, vI l3, w4, w5, w6] [] (SH L) g)
noncomputable def jM_dearest (L : Nat) (g : AMem) : Option (Int × AMem) := tI (RF 204 0 [vR 137, vU, vU, vU, vU] [] (SH L) g)
noncomputable def jM_dearest_8 (L : Nat) (l1 : Int) (l2 : Int) (l3 : Int) (w4 : AVal) (g : AMem) : Option (Int × AMem) := tI (RF 204 8 [vR 137, vI l1, vI l2, vI l3, w4] [] (SH L) g)
noncomputable def jM_reach (L : Nat) (a1 : Int) (a2 : Int) (g : AMem) : Option (Int × AMem) := tI (RF 205 0 [vR 137, vI a1, vI a2, vU, vU, vU] [] (SH L) g)
noncomputable def jM_reach_23 (L : Nat) (l1 : Int) (l2 : Int) (l3 : Int) (g : AMem) : Option (Int × AMem) := tI (RF 205 23 [vR 137, vI l1, vI l2, vI l3, vU, vU] [] (SH L) g)
noncomputable def jM_reach_56 (L : Nat) (l1 : Int) (l2 : Int) (l3 : Int) (w4 : AVal) (w5 : AVal) (g : AMem) : Option (Int × AMem) := tI (RF 205 56 [vR 137, vI l1, vI l2, vI l3, w4, w5] [] (SH L) g)
noncomputable def jM_reach_67 (L : Nat) (l1 : Int) (l2 : Int) (l3 : Int) (l4 : Int) (w5 : AVal) (g : AMem) : Option (Int × AMem) := tI (RF 205 67 [vR 137, vI l1, vI l2, vI l3, vI l4, w5] [] (SH L) g)
noncomputable def jM_draw (L : Nat) (a1 : Int) (a2 : Int) (a3 : Int) (g : AMem) : Option (Int × AMem) := tI (RF 206 0 [vR 137, vI a1, vI a2, vI a3, vU, vU, vU, vU, vU, vU, vU, vU, vU] [] (SH L) g)
noncomputable def jM_draw_52 (L : Nat) (l1 : Int) (l2 : Int) (l3 : Int) (l4 : Int) (l6 : Int) (w7 : AVal) (w8 : AVal) (g : AMem) : Option (Int × AMem) := tI (RF 206 52 [vR 137, vI l1, vI l2, vI l3, vL l4, vU, vI l6, w7, w8, vU, vU, vU, vU] [] (SH L) g)
noncomputable def jM_draw_67 (L : Nat) (l1 : Int) (l2 : Int) (l3 : Int) (l4 : Int) (l6 : Int) (l7 : Int) (w8 : AVal) (g : AMem) : Option (Int × AMem) := tI (RF 206 67 [vR 137, vI l1, vI l2, vI l3, vL l4, vU, vI l6, vI l7, w8, vU, vU, vU, vU] [] (SH L) g)
noncomputable def jM_draw_141 (L : Nat) (l1 : Int) (l2 : Int) (l3 : Int) (l4 : Int) (l6 : Int) (w7 : AVal) (w8 : AVal) (w9 : AVal) (w10 : AVal) (w11 : AVal) (w12 : AVal) (g : AMem) : Option (Int × AMem) := tI (RF 206 141 [vR 137, vI l1, vI l2, vI l3, vL l4, vU, vI l6, w7, w8, w9, w10, w11, w12] [] (SH L) g)
noncomputable def jM_draw_218 (L : Nat) (l1 : Int) (l2 : Int) (l3 : Int) (l4 : Int) (l6 : Int) (l7 : Int) (l8 : Int) (l9 : Int) (l10 : Int) (w11 : AVal) (w12 : AVal) (g : AMem) : Option (Int × AMem) := tI (RF 206 218 [vR 137, vI l1, vI l2, vI l3, vL l4, vU, vI l6, vI l7, vI l8, vI l9, vI l10, w11, w12] [] (SH L) g)
noncomputable def jM_tells (L : Nat) (a1 : Int) (g : AMem) : Option (Int × AMem) := tI (RF 207 0 [vR 137, vI a1] [] (SH L) g)
noncomputable def jM_told (L : Nat) (a1 : Int) (g : AMem) : Option (Int × AMem) := tI (RF 208 0 [vR 137, vI a1] [] (SH L) g)
noncomputable def jM_digest (L : Nat) (g : AMem) : Option (Int × AMem) := tL (RF 209 0 [vR 137, vU, vU, vU, vU] [] (SH L) g)
noncomputable def jM_digest_6 (L : Nat) (l1 : Int) (l3 : Int) (g : AMem) : Option (Int × AMem) := tL (RF 209 6 [vR 137, vL l1, vU, vI l3, vU] [] (SH L) g)
noncomputable def jM_digest_33 (L : Nat) (l1 : Int) (l3 : Int) (w4 : AVal) (g : AMem) : Option (Int × AMem) := tL (RF 209 33 [vR 137, vL l1, vU, vI l3, w4] [] (SH L) g)
noncomputable def jM_digest_58 (L : Nat) (l1 : Int) (l3 : Int) (l4 : Int) (g : AMem) : Option (Int × AMem) := tL (RF 209 58 [vR 137, vL l1, vU, vI l3, vI l4] [] (SH L) g)
noncomputable def jM_digest_103 (L : Nat) (l1 : Int) (l3 : Int) (w4 : AVal) (g : AMem) : Option (Int × AMem) := tL (RF 209 103 [vR 137, vL l1, vU, vI l3, w4] [] (SH L) g)
noncomputable def jM_digest_156 (L : Nat) (l1 : Int) (l3 : Int) (l4 : Int) (g : AMem) : Option (Int × AMem) := tL (RF 209 156 [vR 137, vL l1, vU, vI l3, vI l4] [] (SH L) g)
noncomputable def jM_type (L : Nat) (a1 : Int) (g : AMem) : Option (Int × AMem) := tI (RF 210 0 [vR 137, vI a1] [] (SH L) g)
noncomputable def jM_clear (L : Nat) (g : AMem) : Option (Int × AMem) := tI (RF 211 0 [vR 137, vU] [] (SH L) g)
noncomputable def jM_here (L : Nat) (g : AMem) : Option (Int × AMem) := tI (RF 212 0 [vR 137] [] (SH L) g)
noncomputable def jM_skip_0 (L : Nat) (g : AMem) : Option (AMem) := tV (RF 213 0 [vR 137] [] (SH L) g)
noncomputable def jM_skip (L : Nat) (g : AMem) : Option (AMem) := jM_skip_0 L g
noncomputable def jM_isFigure (L : Nat) (a0 : Int) (g : AMem) : Option (Int × AMem) := tI (RF 214 0 [vI a0] [] (SH L) g)
noncomputable def jM_figures (L : Nat) (a1 : Int) (g : AMem) : Option (Int × AMem) := tI (RF 215 0 [vR 137, vI a1, vU] [] (SH L) g)
noncomputable def jM_figures_2 (L : Nat) (l1 : Int) (l2 : Int) (g : AMem) : Option (Int × AMem) := tI (RF 215 2 [vR 137, vI l1, vI l2] [] (SH L) g)
noncomputable def jM_number (L : Nat) (a1 : Int) (a2 : Int) (g : AMem) : Option (Int × AMem) := tI (RF 216 0 [vR 137, vI a1, vI a2, vU, vU, vU] [] (SH L) g)
noncomputable def jM_number_19 (L : Nat) (l1 : Int) (l2 : Int) (l3 : Int) (l4 : Int) (l5 : Int) (g : AMem) : Option (Int × AMem) := tI (RF 216 19 [vR 137, vI l1, vI l2, vI l3, vI l4, vI l5] [] (SH L) g)
noncomputable def jM_ends (L : Nat) (g : AMem) : Option (Int × AMem) := tI (RF 217 0 [vR 137] [] (SH L) g)
noncomputable def jM_readsBlock (L : Nat) (g : AMem) : Option (Int × AMem) := tI (RF 218 0 [vR 137, vU, vU] [] (SH L) g)
noncomputable def jM_readsBlock_30 (L : Nat) (l1 : Int) (w2 : AVal) (g : AMem) : Option (Int × AMem) := tI (RF 218 30 [vR 137, vI l1, w2] [] (SH L) g)
noncomputable def jM_readsConstant (L : Nat) (g : AMem) : Option (Int × AMem) := tI (RF 219 0 [vR 137, vU, vU, vU] [] (SH L) g)
noncomputable def jM_readsConstant_15 (L : Nat) (l1 : Int) (l2 : Int) (l3 : Int) (g : AMem) : Option (Int × AMem) := tI (RF 219 15 [vR 137, vI l1, vI l2, vI l3] [] (SH L) g)
noncomputable def jM_readsGiven (L : Nat) (a1 : Int) (a2 : Int) (g : AMem) : Option (Int × AMem) := tI (RF 220 0 [vR 137, vI a1, vI a2, vU, vU] [] (SH L) g)
noncomputable def jM_readsEdge (L : Nat) (g : AMem) : Option (Int × AMem) := tI (RF 221 0 [vR 137, vU, vU, vU, vU] [] (SH L) g)
noncomputable def jM_readsEdge_127 (L : Nat) (l1 : Int) (l2 : Int) (l3 : Int) (l4 : Int) (g : AMem) : Option (Int × AMem) := tI (RF 221 127 [vR 137, vI l1, vI l2, vI l3, vI l4] [] (SH L) g)
noncomputable def jM_readsAll (L : Nat) (g : AMem) : Option (Int × AMem) := tI (RF 222 0 [vR 137, vU] [] (SH L) g)
noncomputable def jM_readsAll_21 (L : Nat) (l1 : Int) (g : AMem) : Option (Int × AMem) := tI (RF 222 21 [vR 137, vI l1] [] (SH L) g)
noncomputable def jM_lays (L : Nat) (g : AMem) : Option (AMem) := tV (RF 223 0 [vR 137, vU] [] (SH L) g)
noncomputable def jM_lays_22 (L : Nat) (l1 : Int) (g : AMem) : Option (AMem) := tV (RF 223 22 [vR 137, vI l1] [] (SH L) g)
noncomputable def jM_lays_50 (L : Nat) (l1 : Int) (g : AMem) : Option (AMem) := tV (RF 223 50 [vR 137, vI l1] [] (SH L) g)
noncomputable def jM_lays_79 (L : Nat) (l1 : Int) (g : AMem) : Option (AMem) := tV (RF 223 79 [vR 137, vI l1] [] (SH L) g)
noncomputable def jM_lays_138 (L : Nat) (l1 : Int) (g : AMem) : Option (AMem) := tV (RF 223 138 [vR 137, vI l1] [] (SH L) g)
noncomputable def jM_takes (L : Nat) (g : AMem) : Option (AMem) := tV (RF 224 0 [vR 137, vU] [] (SH L) g)
noncomputable def jM_takes_22 (L : Nat) (l1 : Int) (g : AMem) : Option (AMem) := tV (RF 224 22 [vR 137, vI l1] [] (SH L) g)
noncomputable def jM_takes_50 (L : Nat) (l1 : Int) (g : AMem) : Option (AMem) := tV (RF 224 50 [vR 137, vI l1] [] (SH L) g)
noncomputable def jM_takes_79 (L : Nat) (l1 : Int) (g : AMem) : Option (AMem) := tV (RF 224 79 [vR 137, vI l1] [] (SH L) g)
noncomputable def jM_takes_138 (L : Nat) (l1 : Int) (g : AMem) : Option (AMem) := tV (RF 224 138 [vR 137, vI l1] [] (SH L) g)
noncomputable def jM_read (L : Nat) (g : AMem) : Option (Int × AMem) := tI (RF 225 0 [vR 137, vU] [] (SH L) g)
