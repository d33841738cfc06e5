/-! run: the reference -/
def rnB (V : AMem) (e s w : Int) (S : Int → Int) : Int → Int := if w = 0 then hoB V e (flB s S) (V 1 (V 3 e)).toNat else foB (plV V e (V 0 2)) (flB s S) (plV V e (V 0 2) 0 0).toNat
def rnG (V : AMem) (e s w : Int) : Prop := (0 ≤ e ∧ e < V 0 1) ∧ (0 ≤ s ∧ s ≤ 999999) ∧ (0 ≤ w ∧ w ≤ 1) ∧ clB V e = true
def oRun (V : AMem) (e s w : Int) (S : Int → Int) : Int × AMem := if 0 ≤ e ∧ e < V 0 1 then (if 0 ≤ s ∧ s ≤ 999999 then (if 0 ≤ w ∧ w ≤ 1 then (if clB V e = true then (hsK (rnB V e s w S) 32, V) else rN V) else rB V) else rB V) else rB V
/-- what is left in the spare place -/
def oRunS (V : AMem) (e s w : Int) (S : Int → Int) : Int → Int := if 0 ≤ e ∧ e < V 0 1 then (if 0 ≤ s ∧ s ≤ 999999 then (if 0 ≤ w ∧ w ≤ 1 then (if clB V e = true then rnB V e s w S else S) else S) else S) else S
theorem hsK_s {B : Int → Int} {i : Int} (h : 0 ≤ i) : hsK B (i + 1).toNat = lw (lw (31 * hsK B i.toNat) + B i) := by
  have e1 : (i + 1).toNat = i.toNat + 1 := by omega
  have e2 : ((i.toNat : Nat) : Int) = i := by omega
  rw [e1, hsK, e2]
theorem foB_s {W : AMem} {B : Int → Int} {i : Int} (h : 0 ≤ i) : foB W B (i + 1).toNat = stB (foB W B i.toNat) (W 1 i) (W 2 i) (W 3 i) := by
  have e1 : (i + 1).toNat = i.toNat + 1 := by omega
  have e2 : ((i.toNat : Nat) : Int) = i := by omega
  rw [e1, foB, e2]
theorem hoB_s {V : AMem} {e : Int} {B : Int → Int} {i : Int} (h : 0 ≤ i) : hoB V e B (i + 1).toNat = if V (20 + e) i < 0 then puB (hoB V e B i.toNat) (V (10 + V 3 e) i) (-1 - V (20 + e) i) else cpB B (hoB V e B i.toNat) (V (10 + V 3 e) i / 10) (V (20 + e) i / 10) (V (10 + V 3 e) i % 10) := by
  have e1 : (i + 1).toNat = i.toNat + 1 := by omega
  have e2 : ((i.toNat : Nat) : Int) = i := by omega
  rw [e1, hoB, e2]
section RUN2
variable {L : Nat} {V W X g : AMem} {B C S : Int → Int} {a b bt c d e f i j kd n p q r s t w x : Int}
theorem oRun_V (hV : VaV V) : VaV (oRun V e s w S).2 := by
  unfold oRun
  repeat' split
  all_goals first
    | exact hV
    | exact rB_V hV
    | exact rN_V hV
theorem cM_hash (hM : Mb 153 B g) : jM_run_143 L e s w x 1 0 g = some (hsK B 32, g) := by
  refine lp (F := fun i => jM_run_143 L e s w x (hsK B i.toNat) i g) (n := 32) ?_ ?_ 0 (Int.le_refl _) (by omega)
  · intro i h2 h3 ih
    rw [hsK_s h2] at ih
    rw [jM_run_143_eq, if_neg (by omega), if_pos (by omega), iw_n (show 0 ≤ i + 1 by omega) (by omega), hM i h2 (by omega)]
    exact ih
  · rw [jM_run_143_eq, if_pos (by omega)]
    rfl
def R3 (g g' : AMem) : Prop := ∀ a k, a ≠ 153 → a ≠ 154 → g' a k = g a k
theorem RfV_3 {h : AMem} (hR : RfV V g) (hS : R3 g h) : RfV V h := RfV_k hR (fun a k q => hS a k (by omega) (by omega))
theorem RfP_3 {h : AMem} (hP : RfP W n g) (hS : R3 g h) : RfP W n h := by
  refine ⟨?_, fun k k0 k1 => ?_, fun i i0 i1 => ?_⟩
  · rw [hS _ _ (by omega) (by omega)]
    exact hP.1
  · rw [hS _ _ (by omega) (by omega), hS _ _ (by omega) (by omega), hS _ _ (by omega) (by omega)]
    exact hP.2.1 k k0 k1
  · rw [hS _ _ (by omega) (by omega), hS _ _ (by omega) (by omega)]
    exact hP.2.2 i i0 i1
theorem cM_ho72 (hp : isRg p = true) (hr : isRg r = true) (hw : r % 10 = p % 10) (hM : Mb 153 C g) (hN : ∀ k, 0 ≤ k → k < 32 → g 154 k = B k) : ∃ x y z g', jM_handsOver_72 L e i p r 0 g = jM_handsOver_28 L e (iw (i + 1)) x y z g' ∧ (∀ a k, a ≠ 153 → g' a k = g a k) ∧ Mb 153 (cpB B C (p / 10) (r / 10) (p % 10)) g' := by
  have bp := plc_b (Or.inl hp)
  have br := plc_b (Or.inl hr)
  have bp2 := isRg_b hp
  have br2 := isRg_b hr
  unfold isRg at hp hr
  simp only [decide_eq_true_eq] at hp hr
  refine lpx (F := fun j h => jM_handsOver_72 L e i p r j h) (I := fun j h => (∀ a k, a ≠ 153 → h a k = g a k) ∧ ∀ k, 0 ≤ k → k < 36 → h 153 k = cpB B C (p / 10) (r / 10) j k) (P := fun q => ∃ x y z g', q = jM_handsOver_28 L e (iw (i + 1)) x y z g' ∧ (∀ a k, a ≠ 153 → g' a k = g a k) ∧ Mb 153 (cpB B C (p / 10) (r / 10) (p % 10)) g') (n := p % 10) ?_ ?_ 0 g (Int.le_refl _) (by omega) ⟨fun a k _ => rfl, fun k k0 k1 => by unfold cpB; rw [if_neg (by omega)]; exact hM k k0 k1⟩
  · intro j h h2 h3 hI ih
    have i1 : 0 ≤ r / 10 + j ∧ r / 10 + j < 32 := by omega
    have i2 : 0 ≤ p / 10 + j ∧ p / 10 + j < 36 := by omega
    rw [jM_handsOver_72_eq, cM_widthOf (by omega) (by omega), bnd]
    dsimp only
    rw [if_neg (by omega), cM_byteOf (by omega) (by omega), bnd, cM_byteOf (by omega) (by omega), bnd]
    dsimp only
    rw [iw_n (show 0 ≤ r / 10 + j by omega) (by omega), iw_n (show 0 ≤ p / 10 + j by omega) (by omega), iw_n (show 0 ≤ j + 1 by omega) (by omega), if_pos i1, if_pos i2]
    refine ih _ ⟨fun a k q => by rw [up_n (by omega), hI.1 a k q], fun k k0 k1 => ?_⟩
    by_cases e1 : k = p / 10 + j
    · rw [e1, up_s, hI.1 _ _ (by omega), hN _ i1.1 i1.2]
      unfold cpB
      rw [if_pos (by omega)]
      congr 1
      omega
    · rw [up_n (by omega), hI.2 k k0 k1]
      unfold cpB
      by_cases e2 : p / 10 ≤ k ∧ k < p / 10 + j
      · rw [if_pos e2, if_pos (by omega)]
      · rw [if_neg e2, if_neg (by omega)]
  · intro h hI
    refine ⟨vI p, vI r, vI (p % 10), h, ?_, hI.1, hI.2⟩
    rw [jM_handsOver_72_eq, cM_widthOf (by omega) (by omega), bnd]
    dsimp only
    rw [if_pos (Int.le_refl _)]
theorem cM_handsOver (hV : VaV V) (hR : RfV V g) (he0 : 0 ≤ e) (he1 : e < V 0 1) (hM : Mb 153 B g) : ∃ g', jM_handsOver L e g = some g' ∧ R3 g g' ∧ Mb 153 (hoB V e B (V 1 (V 3 e)).toNat) g' := by
  have hn := edg_n hV he0 he1
  have hB := bOK_e hV he0 he1
  have hE := (hV.2.2.2.2.2.1 e he0 he1).2.2.2
  have step1 : ∃ h, jM_handsOver L e g = jM_handsOver_28 L e 0 vU vU vU h ∧ (∀ a k, a ≠ 154 → h a k = g a k) ∧ ∀ k, 0 ≤ k → k < 32 → h 154 k = B k := by
    rw [jM_handsOver_eq]
    refine lpx (F := fun i h => jM_handsOver_2 L e i h) (I := fun i h => (∀ a k, a ≠ 154 → h a k = g a k) ∧ ∀ k, 0 ≤ k → k < i → h 154 k = B k) (P := fun q => ∃ h, q = jM_handsOver_28 L e 0 vU vU vU h ∧ (∀ a k, a ≠ 154 → h a k = g a k) ∧ ∀ k, 0 ≤ k → k < 32 → h 154 k = B k) (n := 32) ?_ ?_ 0 g (Int.le_refl _) (by omega) ⟨fun a k _ => rfl, fun k k0 k1 => by omega⟩
    · intro i h h2 h3 hI ih
      rw [jM_handsOver_2_eq, if_neg (by omega), if_pos (by omega), if_pos (by omega), iw_n (show 0 ≤ i + 1 by omega) (by omega)]
      refine ih _ ⟨fun a k q => by rw [up_n (by omega), hI.1 a k q], fun k k0 k1 => ?_⟩
      by_cases e1 : k = i
      · rw [e1, up_s, hI.1 _ _ (by omega)]
        exact hM i h2 (by omega)
      · rw [up_n (by omega)]
        exact hI.2 k k0 (by omega)
    · intro h hI
      refine ⟨h, ?_, hI⟩
      rw [jM_handsOver_2_eq, if_pos (by omega)]
  obtain ⟨h1, q1, q2, q3⟩ := step1
  rw [q1]
  refine lpx (F := fun i s => jM_handsOver_28 L e i s.1 s.2.1 s.2.2.1 s.2.2.2) (σ := AVal × AVal × AVal × AMem) (I := fun i s => (∀ a k, a ≠ 153 → s.2.2.2 a k = h1 a k) ∧ Mb 153 (hoB V e B i.toNat) s.2.2.2) (P := fun q => ∃ g', q = some g' ∧ R3 g g' ∧ Mb 153 (hoB V e B (V 1 (V 3 e)).toNat) g') (n := V 1 (V 3 e)) ?_ ?_ 0 (vU, vU, vU, h1) (Int.le_refl _) hn.1 ⟨fun a k _ => rfl, fun k k0 k1 => by dsimp only; rw [q2 _ _ (by omega)]; exact hM k k0 k1⟩
  · intro i s h2 h3 hI ih
    obtain ⟨x, y, z, h⟩ := s
    dsimp only at hI ⊢
    rw [hoB_s h2] at ih
    have hS : R3 g h := fun a k q q' => by rw [hI.1 a k q, q2 a k q']
    have hRh := RfV_3 hR hS
    have hr := hB.2.1 i h2 h3
    have ho := hE i h2 h3
    rw [jM_handsOver_28_eq, cM_manyOf hV hRh he0 he1, bnd]
    dsimp only
    rw [if_neg (by omega), cM_parameterOf hV hRh he0 he1 h2 h3, bnd, cM_givenOf hV hRh he0 he1 h2 h3, bnd]
    dsimp only
    by_cases c : 0 ≤ V (20 + e) i
    · have hg := okA_r ho c
      rw [if_neg (by omega)] at ih
      obtain ⟨x', y', z', g1, a1, a2, a3⟩ := cM_ho72 (L := L) (e := e) (i := i) (B := B) hr hg.1 hg.2 hI.2 (fun k k0 k1 => by rw [hI.1 _ _ (by omega)]; exact q3 k k0 k1)
      rw [if_pos c, a1, iw_n (by omega) (by omega)]
      exact ih (x', y', z', g1) ⟨fun a k q => by dsimp only; rw [a2 a k q, hI.1 a k q], a3⟩
    · have hb := okA_b ho
      rw [if_pos (by omega)] at ih
      obtain ⟨g1, a1, a2, a3⟩ := cM_puts (L := L) (c := -1 - V (20 + e) i) hI.2 hr
      rw [if_neg c, iw_s (show -2147483648 ≤ -1 - V (20 + e) i ∧ -1 - V (20 + e) i < 2147483648 by omega), a1, bnd, iw_n (by omega) (by omega)]
      exact ih (_, _, _, g1) ⟨fun a k q => by dsimp only; rw [a2 a k q, hI.1 a k q], a3⟩
  · intro s hI
    have hS : R3 g s.2.2.2 := fun a k q q' => by rw [hI.1 a k q, q2 a k q']
    refine ⟨s.2.2.2, ?_, hS, hI.2⟩
    rw [jM_handsOver_28_eq, cM_manyOf hV (RfV_3 hR hS) he0 he1, bnd]
    dsimp only
    rw [if_pos (Int.le_refl _)]
theorem cM_run116 (hP : RfP W n g) (hS : SO W) (h9 : W 0 0 ≤ 9) (hM : Mb 153 B g) : ∃ g', jM_run_116 L e s w x 0 g = jM_run_143 L e s w x 1 0 g' ∧ (∀ a k, a ≠ 153 → g' a k = g a k) ∧ Mb 153 (foB W B (W 0 0).toNat) g' := by
  have h00 := hS.1
  refine lpx (F := fun i h => jM_run_116 L e s w x i h) (I := fun i h => (∀ a k, a ≠ 153 → h a k = g a k) ∧ Mb 153 (foB W B i.toNat) h) (P := fun q => ∃ g', q = jM_run_143 L e s w x 1 0 g' ∧ (∀ a k, a ≠ 153 → g' a k = g a k) ∧ Mb 153 (foB W B (W 0 0).toNat) g') (n := W 0 0) ?_ ?_ 0 g (Int.le_refl _) h00 ⟨fun a k _ => rfl, hM⟩
  · intro i h h2 h3 hI ih
    rw [foB_s h2] at ih
    have hPh : RfP W n h := RfP_3 hP (fun a k q _ => hI.1 a k q)
    obtain ⟨g1, a1, a2, a3⟩ := cM_stepsOn (L := L) hI.2 hPh hS h9 h2 h3
    rw [jM_run_116_eq, hPh.1, if_neg (by omega), a1, bnd, iw_n (by omega) (by omega)]
    exact ih g1 ⟨fun a k q => by rw [a2 a k q, hI.1 a k q], a3⟩
  · intro h hI
    refine ⟨h, ?_, hI⟩
    rw [jM_run_116_eq, hI.1 _ _ (by omega), hP.1, if_pos (Int.le_refl _)]
theorem cM_run54 (hV : VaV V) (hR : RfV V g) (he0 : 0 ≤ e) (he1 : e < V 0 1) (hs0 : 0 ≤ s) (hs1 : s ≤ 999999) : ∃ g', jM_run_54 L e s w s 0 g = some (hsK (rnB V e s w (g 153)) 32, g') ∧ RfV V g' ∧ (∀ a k, a < 137 ∨ a = 157 → g' a k = g a k) ∧ Mb 153 (rnB V e s w (g 153)) g' := by
  refine lpx (F := fun i h => jM_run_54 L e s w (xK s i.toNat) i h) (I := fun i h => (∀ a k, a ≠ 153 → h a k = g a k) ∧ ∀ k, 0 ≤ k → k < 36 → h 153 k = if k < i then xK s (k + 1).toNat / 65536 % 256 else g 153 k) (P := fun q => ∃ g', q = some (hsK (rnB V e s w (g 153)) 32, g') ∧ RfV V g' ∧ (∀ a k, a < 137 ∨ a = 157 → g' a k = g a k) ∧ Mb 153 (rnB V e s w (g 153)) g') (n := 32) ?_ ?_ 0 g (Int.le_refl _) (by omega) ⟨fun a k _ => rfl, fun k k0 k1 => by rw [if_neg (by omega)]⟩
  · intro i h h2 h3 hI ih
    have hx := xK_b (s := s) hs0 (by omega) (k := i.toNat)
    have hx2 := xN_b (x := xK s i.toNat)
    rw [xK_s h2] at ih
    rw [jM_run_54_eq, if_neg (by omega), cM_next hx.1 hx.2, bnd]
    dsimp only
    rw [if_pos (by omega), iw_n (show 0 ≤ i + 1 by omega) (by omega), drw hx2.1 hx2.2 (by omega) (by omega) (by omega)]
    refine ih _ ⟨fun a k q => by rw [up_n (by omega), hI.1 a k q], fun k k0 k1 => ?_⟩
    by_cases e1 : k = i
    · rw [e1, up_s, if_pos (by omega), xK_s h2]
    · rw [up_n (by omega), hI.2 k k0 k1]
      by_cases e2 : k < i
      · rw [if_pos e2, if_pos (by omega)]
      · rw [if_neg e2, if_neg (by omega)]
  · intro h hI
    have hRh : RfV V h := RfV_3 hR (fun a k q _ => hI.1 a k q)
    have hM : Mb 153 (flB s (g 153)) h := fun k k0 k1 => by
      rw [hI.2 k k0 k1]
      unfold flB
      by_cases e1 : k < 32
      · rw [if_pos e1, if_pos ⟨k0, e1⟩]
      · rw [if_neg e1, if_neg (by omega)]
    rw [jM_run_54_eq, if_pos (by omega)]
    by_cases hw : w = 0
    · have hrn : rnB V e s w (g 153) = hoB V e (flB s (g 153)) (V 1 (V 3 e)).toNat := by
        unfold rnB
        rw [if_pos hw]
      obtain ⟨g1, a1, a2, a3⟩ := cM_handsOver (L := L) hV hRh he0 he1 hM
      rw [if_neg (by omega), a1, bnd, cM_hash a3, hrn]
      exact ⟨g1, rfl, RfV_3 hRh a2, fun a k q => by rw [a2 a k (by omega) (by omega), hI.1 a k (by omega)], a3⟩
    · have hrn : rnB V e s w (g 153) = foB (plV V e (V 0 2)) (flB s (g 153)) (plV V e (V 0 2) 0 0).toNat := by
        unfold rnB
        rw [if_neg hw]
      obtain ⟨g1, a1, a2, a3⟩ := cM_setSteps (L := L) (kd := h 137 3) hV hRh he0 he1
      rw [hRh.1.2.2.1] at a1 a2
      have h9 := plV_9 (kd := V 0 2) hV he0 he1
      have hM1 : Mb 153 (flB s (g 153)) g1 := fun k k0 k1 => by
        rw [a3 _ _ (by unfold spR; omega)]
        exact hM k k0 k1
      obtain ⟨g2, b1, b2, b3⟩ := cM_run116 (L := L) (e := e) (s := s) (w := w) (x := xK s (32 : Int).toNat) a2 h9.1 h9.2 hM1
      rw [if_pos hw, hRh.1.2.2.1, a1, bnd, b1, cM_hash b3, hrn]
      exact ⟨g2, rfl, RfV_3 (RfV_sp hRh a3) (fun a k q _ => b2 a k q), fun a k q => by rw [b2 a k (by omega), a3 a k (by unfold spR; omega), hI.1 a k (by omega)], b3⟩
theorem cM_run (hV : VaV V) (hR : RfV V g) : ∃ g', jM_run L e s w g = some ((oRun V e s w (g 153)).1, g') ∧ RfV (oRun V e s w (g 153)).2 g' ∧ (∀ a k, a < 137 ∨ a = 157 → g' a k = g a k) ∧ ∀ k, 32 ≤ k → k < 36 → g' 153 k = oRunS V e s w (g 153) k := by
  have fin : ∀ (o : Int × AMem) (q : Option (Int × AMem)), RO o q g → ∃ g', q = some (o.1, g') ∧ RfV o.2 g' ∧ (∀ a k, a < 137 ∨ a = 157 → g' a k = g a k) ∧ ∀ k, 32 ≤ k → k < 36 → g' 153 k = g 153 k := by
    intro o q h
    obtain ⟨g', h1, h2, h3⟩ := h
    exact ⟨g', h1, h2, fun a k q => h3 a k (by omega), fun k _ _ => h3 153 k (by omega)⟩
  rw [jM_run_eq, cM_isEdge hV hR, bnd]
  dsimp only
  rw [ifz, bns, cM_in, bnd]
  dsimp only
  rw [ifz, bns, cM_in, bnd]
  dsimp only
  rw [ifn, bns]
  unfold oRun oRunS
  by_cases he : 0 ≤ e ∧ e < V 0 1
  · rw [if_pos he, if_pos he, if_pos he]
    by_cases hs : 0 ≤ s ∧ s ≤ 999999
    · rw [if_pos hs, if_pos hs, if_pos hs]
      by_cases hw : 0 ≤ w ∧ w ≤ 1
      · rw [if_pos hw, if_pos hw, if_pos hw, cM_isClear hV hR he.1 he.2, bnd]
        dsimp only
        rw [ifn, bns]
        by_cases hc : clB V e = true
        · rw [if_pos hc, if_pos hc, if_pos hc]
          obtain ⟨g1, a1, a2, a3, a4⟩ := cM_run54 (L := L) (w := w) hV hR he.1 he.2 hs.1 hs.2
          dsimp only
          exact ⟨g1, a1, a2, a3, fun k k0 k1 => a4 k (by omega) k1⟩
        · rw [if_neg hc, if_neg hc, if_neg hc]
          exact fin _ _ (RO_N hR)
      · rw [if_neg hw, if_neg hw, if_neg hw]
        exact fin _ _ (RO_B hR)
    · rw [if_neg hs, if_neg hs, if_neg hs]
      exact fin _ _ (RO_B hR)
  · rw [if_neg he, if_neg he, if_neg he]
    exact fin _ _ (RO_B hR)
end RUN2
