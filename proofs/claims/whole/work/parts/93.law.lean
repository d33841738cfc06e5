/-! the law: one round of its walk, for any call -/
section LAW
variable {L : Nat} {xs : Nat → Int32} {V g : AMem} {i k u v : Int} {j pc pc' x y len : Nat} {z : Int} {ls st rest ls0 : List AVal} {sh : List AShp} {g' : AMem} {ins : Instr}
theorem u_callI (hc : look (codL j) pc = some (ins, len, x, y, z)) (hk : akd ins x = 1) (hy : y ≤ st.length ∧ awg (st.drop y) ≤ 8 ∧ a_rcv (mtd x) sh (st.take y).reverse = true ∧ (aent (st.take y).reverse).length ≤ (mtd x).2.1) (h0 : apad (aent (st.take y).reverse) (mtd x).2.1 = ls0) (hr : st.drop y = rest) (hq : qM x = true ∧ x < nmeth ∧ ((mtd x).2.2.1 = 1 ∨ (mtd x).2.2.1 = 2)) (hp : pc + 3 = pc') (he : tI (RF x 0 ls0 [] sh g) = some (v, g')) : RF j pc ls st sh g = RF j pc' ls (vI v :: rest) sh g' := by
  have h := q_callI (T := id) (Z := fun q => RF j pc' ls (vI q.1 :: rest) sh q.2) (ls := ls) (g := g) rfl hc hk hy h0 hr hq hp (fun q => rfl)
  rw [he] at h
  exact h
theorem u_callL (hc : look (codL j) pc = some (ins, len, x, y, z)) (hk : akd ins x = 1) (hy : y ≤ st.length ∧ awg (st.drop y) ≤ 8 ∧ a_rcv (mtd x) sh (st.take y).reverse = true ∧ (aent (st.take y).reverse).length ≤ (mtd x).2.1) (h0 : apad (aent (st.take y).reverse) (mtd x).2.1 = ls0) (hr : st.drop y = rest) (hq : qM x = true ∧ x < nmeth ∧ (mtd x).2.2.1 = 3) (hp : pc + 3 = pc') (he : tL (RF x 0 ls0 [] sh g) = some (v, g')) : RF j pc ls st sh g = RF j pc' ls (vL v :: rest) sh g' := by
  have h := q_callL (T := id) (Z := fun q => RF j pc' ls (vL q.1 :: rest) sh q.2) (ls := ls) (g := g) rfl hc hk hy h0 hr hq hp (fun q => rfl)
  rw [he] at h
  exact h
theorem aln_1 : aln (SH L) 1 = L := rfl
/-- a number of the script, by its place -/
theorem w_arg {l0 l1 l2 l3 l4 : Nat} (c0 : look (codL 226) pc = some (.aload_n 0, l0, 0, 0, 0)) (c1 : look (codL 226) (pc + 1) = some (.iload_n 3, l1, 0, 0, 0)) (c2 : look (codL 226) (pc + 2) = some (.iconst k, l2, 0, 0, 0)) (c3 : look (codL 226) (pc + 3) = some (.iadd, l3, 0, 0, 0)) (c4 : look (codL 226) (pc + 4) = some (.iaload, l4, 0, 0, 0)) (hi : 0 ≤ i) (hk : 0 ≤ k) (hL : i + k < L) (hl : L ≤ 2048) (hv : g 1 (i + k) = v) (hp : pc + 5 = pc') : RF 226 pc [vR 1, vR 2, vR 137, vI i] st (SH L) g = RF 226 pc' [vR 1, vR 2, vR 137, vI i] (vI v :: st) (SH L) g := by
  subst hp hv
  rw [RF_row (pc' := pc + 1) (ls' := [vR 1, vR 2, vR 137, vI i]) (st' := vR 1 :: st) (sh' := SH L) (g' := g) c0 rfl rfl]
  rw [RF_row (pc' := pc + 2) (ls' := [vR 1, vR 2, vR 137, vI i]) (st' := vI i :: vR 1 :: st) (sh' := SH L) (g' := g) c1 rfl rfl]
  rw [RF_row (pc' := pc + 3) (ls' := [vR 1, vR 2, vR 137, vI i]) (st' := vI k :: vI i :: vR 1 :: st) (sh' := SH L) (g' := g) c2 rfl rfl]
  rw [RF_row (pc' := pc + 4) (ls' := [vR 1, vR 2, vR 137, vI i]) (st' := vI (iw (i + k)) :: vR 1 :: st) (sh' := SH L) (g' := g) c3 rfl rfl]
  rw [iw_n (by omega) (by omega)]
  refine RF_row c4 rfl ?_
  show a_iald (pc + 4 + 1) _ (vI (i + k) :: vR 1 :: st) (SH L) g = _
  unfold a_iald
  dsimp only
  rw [aln_1, if_pos ⟨by omega, hL⟩]
/-- the two answers are one: the walk goes on -/
theorem w_endI {o : Int} (c0 : look (codL 226) pc = some (.if_icmp .eq o, len, x, y, z)) (hp : ((pc : Int) + o).toNat = 956) (hi : 0 ≤ i) (hl : i ≤ 2048) : RF 226 pc [vR 1, vR 2, vR 137, vI i] [vI v, vI v] (SH L) g = RF 226 18 [vR 1, vR 2, vR 137, vI (i + 4)] [] (SH L) g := by
  rw [RF_row (pc' := 956) (ls' := [vR 1, vR 2, vR 137, vI i]) (st' := []) (sh' := SH L) (g' := g) c0 rfl ?_]
  · rw [RF_row (pc' := 959) (ls' := [vR 1, vR 2, vR 137, vI (iw (i + 4))]) (st' := []) (sh' := SH L) (g' := g) k226_956 rfl rfl]
    rw [iw_n (by omega) (by omega)]
    exact RF_row k226_959 rfl rfl
  · show a_ic .eq ((pc : Int) + o).toNat (pc + 3) _ (vI v :: vI v :: []) (SH L) g = _
    unfold a_ic
    dsimp only
    cases hd : acndD .eq v v with
    | isTrue h => dsimp only; rw [hp]
    | isFalse h => exact absurd rfl h
theorem w_endL {o : Int} {l1 x1 y1 : Nat} {z1 : Int} (c0 : look (codL 226) pc = some (.lcmp, len, x, y, z)) (c1 : look (codL 226) (pc + 1) = some (.ifCond .eq o, l1, x1, y1, z1)) (hp : (((pc + 1 : Nat) : Int) + o).toNat = 956) (hi : 0 ≤ i) (hl : i ≤ 2048) : RF 226 pc [vR 1, vR 2, vR 137, vI i] [vL v, vL v] (SH L) g = RF 226 18 [vR 1, vR 2, vR 137, vI (i + 4)] [] (SH L) g := by
  rw [RF_row (pc' := pc + 1) (ls' := [vR 1, vR 2, vR 137, vI i]) (st' := [vI 0]) (sh' := SH L) (g' := g) c0 rfl ?_]
  · rw [RF_row (pc' := 956) (ls' := [vR 1, vR 2, vR 137, vI i]) (st' := []) (sh' := SH L) (g' := g) c1 rfl ?_]
    · rw [RF_row (pc' := 959) (ls' := [vR 1, vR 2, vR 137, vI (iw (i + 4))]) (st' := []) (sh' := SH L) (g' := g) k226_956 rfl rfl]
      rw [iw_n (by omega) (by omega)]
      exact RF_row k226_959 rfl rfl
    · show a_if .eq (((pc + 1 : Nat) : Int) + o).toNat (pc + 1 + 3) _ (vI 0 :: []) (SH L) g = _
      rw [hp]
      rfl
  · show a_lcmp (pc + 1) _ (vL v :: vL v :: []) (SH L) g = _
    unfold a_lcmp
    dsimp only
    rw [if_neg (by omega), if_pos rfl]
theorem cno_x (h : Inv L xs V g) (h0 : 0 ≤ k) (h1 : k < L) : cno (g 1 k) := by
  rw [h.2.2.2.2 k h0 h1]
  have a := Int32.toInt_lt (xs k.toNat)
  have b := Int32.le_toInt (xs k.toNat)
  exact ⟨by omega, by omega⟩
theorem Rf_Hi {g1 : AMem} (hH : Hi g g1) (hR : RfV V g) : RfV V g1 := RfV_k hR (fun a k q => hH a k (by omega))
theorem inv_step {o : Int × AMem} {q1 : Option (Int × AMem)} {q2 : AMem → Option (Int × AMem)} (h : Inv L xs V g) (hC : CO o q1 g) (hV' : VaV o.2) (hM : ∀ g1, RfV V g1 → ∃ g2, q2 g1 = some (o.1, g2) ∧ RfV o.2 g2 ∧ ∀ a k, a < 137 ∨ a = 153 → g2 a k = g1 a k) : ∃ g1 g2, q1 = some (o.1, g1) ∧ (∀ k, g1 1 k = g 1 k) ∧ q2 g1 = some (o.1, g2) ∧ Inv L xs o.2 g2 := by
  obtain ⟨hV, -, hR, hS, hx⟩ := h
  obtain ⟨g1, t1, e1, hC1, hH⟩ := hC
  obtain ⟨g2, e2, hR2, hL⟩ := hM g1 (Rf_Hi hH hR)
  refine ⟨g1, g2, e1, fun k => hH 1 k (by omega), e2, hV', ⟨t1, ClV_k hV' hC1 (fun a k _ q => hL a k (by omega))⟩, hR2, fun k h0 h1 => ?_, fun k h0 h1 => ?_⟩
  · rw [hL 153 k (by omega), hL 133 k (by omega), hH 153 k (by omega), hH 133 k (by omega)]
    exact hS k h0 h1
  · rw [hL 1 k (by omega), hH 1 k (by omega)]
    exact hx k h0 h1
theorem RO_w {o : Int × AMem} {q : Option (Int × AMem)} (h : RO o q g) : ∃ g2, q = some (o.1, g2) ∧ RfV o.2 g2 ∧ ∀ a k, a < 137 ∨ a = 153 → g2 a k = g a k := by
  obtain ⟨g2, e, h1, h2⟩ := h
  exact ⟨g2, e, h1, fun a k q => h2 a k (by omega)⟩
end LAW
section AGR
variable {V W : AMem} {e s w : Int} {B C S S' D D' : Int → Int}
def Agr (B C : Int → Int) : Prop := ∀ k, 0 ≤ k → k < 36 → B k = C k
theorem agr_fl (h : ∀ k, 32 ≤ k → k < 36 → S k = S' k) : Agr (flB s S) (flB s S') := by
  intro k h0 h1
  unfold flB
  by_cases q : 0 ≤ k ∧ k < 32
  · rw [if_pos q, if_pos q]
  · rw [if_neg q, if_neg q]
    exact h k (by omega) h1
theorem agr_pu {r c : Int} (h : Agr B C) : Agr (puB B r c) (puB C r c) := by
  intro k h0 h1
  unfold puB
  rw [h k h0 h1]
theorem agr_cp {t f n : Int} (h : Agr B C) (hD : Agr D D') (h0 : 0 ≤ f) (h1 : f + n ≤ 36) : Agr (cpB D B t f n) (cpB D' C t f n) := by
  intro k k0 k1
  unfold cpB
  by_cases q : t ≤ k ∧ k < t + n
  · rw [if_pos q, if_pos q]
    exact hD _ (by omega) (by omega)
  · rw [if_neg q, if_neg q]
    exact h k k0 k1
theorem agr_sw {t f n : Int} (h : Agr B C) (h0 : 0 ≤ f) (h1 : f + n ≤ 36) (h2 : 0 ≤ t) (h3 : t + n ≤ 36) : Agr (swB B t f n) (swB C t f n) := by
  intro k k0 k1
  unfold swB
  by_cases q : t ≤ k ∧ k < t + n
  · rw [if_pos q, if_pos q]
    exact h _ (by omega) (by omega)
  · rw [if_neg q, if_neg q]
    by_cases p : f ≤ k ∧ k < f + n
    · rw [if_pos p, if_pos p]
      exact h _ (by omega) (by omega)
    · rw [if_neg p, if_neg p]
      exact h k k0 k1
theorem agr_st {a t f : Int} (h : Agr B C) (hO : stpO a t f) : Agr (stB B a t f) (stB C a t f) := by
  obtain ⟨pt, hO⟩ := hO
  have bt := plc_b pt
  unfold stB
  rcases hO with ⟨rfl, -⟩ | ⟨ha, pf, hw⟩
  · rw [if_pos rfl, if_pos rfl]
    exact agr_pu h
  · have bf := plc_b pf
    have h2 : ¬ a = 2 := by omega
    rw [if_neg h2, if_neg h2]
    by_cases q : a = 1
    · rw [if_pos q, if_pos q]
      exact agr_sw h (by omega) (by omega) (by omega) (by omega)
    · rw [if_neg q, if_neg q]
      exact agr_cp h h (by omega) (by omega)
theorem agr_fo (h : Agr B C) (hS : SO W) : ∀ k : Nat, (k : Int) ≤ W 0 0 → Agr (foB W B k) (foB W C k)
  | 0, _ => h
  | k + 1, hk => by
    rw [foB, foB]
    exact agr_st (agr_fo h hS k (by omega)) (hS.2 k (by omega) (by omega))
theorem agr_ho (h : Agr B C) (hE : ∀ i, 0 ≤ i → i < V 1 (V 3 e) → isRg (V (10 + V 3 e) i) = true ∧ okA (V (20 + e) i) (V (10 + V 3 e) i)) : ∀ k : Nat, (k : Int) ≤ V 1 (V 3 e) → Agr (hoB V e B k) (hoB V e C k)
  | 0, _ => h
  | k + 1, hk => by
    have ih := agr_ho h hE k (by omega)
    obtain ⟨hr, hA⟩ := hE k (by omega) (by omega)
    rw [hoB, hoB]
    by_cases q : V (20 + e) k < 0
    · rw [if_pos q, if_pos q]
      exact agr_pu ih
    · rw [if_neg q, if_neg q]
      rcases hA with hA | ⟨hA, hw⟩
      · omega
      · have ba := plc_b (Or.inl hA)
        exact agr_cp ih h (by omega) (by omega)
theorem agr_rn (hV : VaV V) (he0 : 0 ≤ e) (he1 : e < V 0 1) (h : ∀ k, 32 ≤ k → k < 36 → S k = S' k) : Agr (rnB V e s w S) (rnB V e s w S') := by
  have hE := hV.2.2.2.2.2.1 e he0 he1
  have hB := hV.2.2.2.2.1 (V 3 e) hE.2.1.1 hE.2.1.2
  unfold rnB
  by_cases q : w = 0
  · rw [if_pos q, if_pos q]
    exact agr_ho (agr_fl h) (fun i i0 i1 => ⟨hB.2.1 i i0 i1, hE.2.2.2 i i0 i1⟩) _ (by omega)
  · rw [if_neg q, if_neg q]
    have hP := plV_9 (kd := V 0 2) hV he0 he1
    have := hP.1.1
    exact agr_fo (agr_fl h) hP.1 _ (by omega)
theorem hs_agr (h : Agr B C) : ∀ k : Nat, k ≤ 32 → hsK B k = hsK C k
  | 0, _ => rfl
  | k + 1, hk => by
    rw [hsK, hsK, hs_agr h k (by omega), h k (by omega) (by omega)]
theorem oRun_agr (hV : VaV V) (h : ∀ k, 32 ≤ k → k < 36 → S k = S' k) : oRun V e s w S = oRun V e s w S' ∧ ∀ k, 32 ≤ k → k < 36 → oRunS V e s w S k = oRunS V e s w S' k := by
  unfold oRun oRunS
  by_cases q1 : 0 ≤ e ∧ e < V 0 1
  · rw [if_pos q1, if_pos q1, if_pos q1, if_pos q1]
    by_cases q2 : 0 ≤ s ∧ s ≤ 999999
    · rw [if_pos q2, if_pos q2, if_pos q2, if_pos q2]
      by_cases q3 : 0 ≤ w ∧ w ≤ 1
      · rw [if_pos q3, if_pos q3, if_pos q3, if_pos q3]
        by_cases q4 : clB V e = true
        · rw [if_pos q4, if_pos q4, if_pos q4, if_pos q4]
          have a := agr_rn (s := s) (w := w) hV q1.1 q1.2 h
          exact ⟨by rw [hs_agr a 32 (Nat.le_refl _)], fun k k0 k1 => a k (by omega) k1⟩
        · rw [if_neg q4, if_neg q4, if_neg q4, if_neg q4]
          exact ⟨rfl, h⟩
      · rw [if_neg q3, if_neg q3, if_neg q3, if_neg q3]
        exact ⟨rfl, h⟩
    · rw [if_neg q2, if_neg q2, if_neg q2, if_neg q2]
      exact ⟨rfl, h⟩
  · rw [if_neg q1, if_neg q1, if_neg q1, if_neg q1]
    exact ⟨rfl, h⟩
theorem inv_run {L : Nat} {xs : Nat → Int32} {g : AMem} (h : Inv L xs V g) : ∃ v g1 g2 V', jX_run L e s w g = some (v, g1) ∧ (∀ k, g1 1 k = g 1 k) ∧ jM_run L e s w g1 = some (v, g2) ∧ Inv L xs V' g2 := by
  obtain ⟨hV, ⟨t, hC⟩, hR, hS, hx⟩ := h
  obtain ⟨g1, t1, e1, hC1, hH, hS1⟩ := cX_run (L := L) (e := e) (s := s) (w := w) hV hC
  obtain ⟨g2, e2, hR2, hL, hS2⟩ := cM_run (L := L) (e := e) (s := s) (w := w) (g := g1) hV (RfV_k hR (fun a k q => hH a k (by omega)))
  have h153 : ∀ k, 32 ≤ k → k < 36 → g1 153 k = g 133 k := fun k k0 k1 => by rw [hH 153 k (by omega), hS k k0 k1]
  have hg := oRun_agr (V := V) (e := e) (s := s) (w := w) (S := g1 153) (S' := g 133) hV h153
  rw [hg.1] at e2 hR2
  have hV' : VaV (oRun V e s w (g 133)).2 := oRun_V hV
  refine ⟨_, g1, g2, _, e1, fun k => hH 1 k (by omega), e2, hV', ⟨t1, ClV_k hV' hC1 (fun a k _ q => hL a k (by omega))⟩, hR2, fun k h0 h1 => ?_, fun k h0 h1 => ?_⟩
  · rw [hS2 k h0 h1, hL 133 k (by omega), hS1 k h0 h1]
    exact hg.2 k h0 h1
  · rw [hL 1 k (by omega), hH 1 k (by omega)]
    exact hx k h0 h1
end AGR
