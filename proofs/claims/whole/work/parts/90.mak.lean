/-! makers: rows that make cells -/
def zS (L : Nat) (c : List AShp) : List AShp := (99, 0, []) :: (30, L, []) :: c
section MAK
variable {ins : Instr} {L j pc pc' len x y i N : Nat} {z r t u v : Int} {ls ls' st st' : List AVal} {c c' : List AShp} {g g' : AMem} {w : AShp}
theorem zS_l : (zS L c).length = c.length + 2 := rfl
theorem zS_g {k : Nat} : (zS L c)[k + 2]? = c[k]? := rfl
theorem zS_s {k : Nat} : (zS L c).set (k + 2) w = zS L (c.set k w) := rfl
theorem zS_a {d : List AShp} : zS L c ++ d = zS L (c ++ d) := rfl
theorem kin_z {k : Nat} (h : t = (k : Int) + 2) (hw : c[k]? = some w) : kin (zS L c) t = w.1 := by
  have e : t.toNat = k + 2 := by omega
  unfold kin
  rw [e, zS_g, hw]
  exact if_pos (by omega)
theorem m_row (hc : look (codL j) pc = some (ins, len, x, y, z)) (hk : akd ins x = 0) (hs : stp ins x y z pc ls st (zS L c) g = some (pc', ls', st', zS L c, g)) : RF j pc ls st (zS L c) g = RF j pc' ls' st' (zS L c) g := RF_row hc hk hs
theorem m_new (hc : look (codL j) pc = some (.new i, len, x, y, z)) (hn : c.length = N) (hr : (N : Int) + 2 = r) (hp : pc + 3 = pc') (hz : c ++ [(x, (jfld x).length, List.replicate (jfld x).length 0)] = c') (hg : zr g r = g') : RF j pc ls st (zS L c) g = RF j pc' ls (vR r :: st) (zS L c') g' := by
  subst hp hz hg hr
  refine RF_row hc rfl ?_
  show a_new x (pc + 3) ls st (zS L c) g = _
  unfold a_new
  rw [zS_a, zS_l, hn]
  rfl
theorem m_newI (hc : look (codL j) pc = some (.newarray .int, len, x, y, z)) (hn : c.length = N) (hr : (N : Int) + 2 = r) (hu : 0 ≤ u ∧ u ≤ 1000) (hp : pc + 2 = pc') (hz : c ++ [(20, u.toNat, [])] = c') (hg : zr g r = g') : RF j pc ls (vI u :: st) (zS L c) g = RF j pc' ls (vR r :: st) (zS L c') g' := by
  subst hp hz hg hr
  refine RF_row hc rfl ?_
  show a_newa 20 (pc + 2) ls (vI u :: st) (zS L c) g = _
  unfold a_newa
  dsimp only
  rw [if_pos hu, zS_a, zS_l, hn]
  rfl
theorem m_newB (hc : look (codL j) pc = some (.newarray .boolean, len, x, y, z)) (hn : c.length = N) (hr : (N : Int) + 2 = r) (hu : 0 ≤ u ∧ u ≤ 1000) (hp : pc + 2 = pc') (hz : c ++ [(21, u.toNat, [])] = c') (hg : zr g r = g') : RF j pc ls (vI u :: st) (zS L c) g = RF j pc' ls (vR r :: st) (zS L c') g' := by
  subst hp hz hg hr
  refine RF_row hc rfl ?_
  show a_newa 21 (pc + 2) ls (vI u :: st) (zS L c) g = _
  unfold a_newa
  dsimp only
  rw [if_pos hu, zS_a, zS_l, hn]
  rfl
theorem m_newQ (hc : look (codL j) pc = some (.anewarray i, len, x, y, z)) (hx : x = 22 ∨ x = 23) (hn : c.length = N) (hr : (N : Int) + 2 = r) (hu : 0 ≤ u ∧ u ≤ 1000) (hp : pc + 3 = pc') (hz : c ++ [(x, u.toNat, List.replicate u.toNat 0)] = c') (hg : zr g r = g') : RF j pc ls (vI u :: st) (zS L c) g = RF j pc' ls (vR r :: st) (zS L c') g' := by
  subst hp hz hg hr
  refine RF_row hc rfl ?_
  show (if x = 22 ∨ x = 23 then a_newq x (pc + 3) ls (vI u :: st) (zS L c) g else none) = _
  rw [if_pos hx]
  unfold a_newq
  dsimp only
  rw [if_pos hu, zS_a, zS_l, hn]
  rfl
theorem m_getF (hc : look (codL j) pc = some (.getfield i, len, x, y, z)) (ht : t = (N : Int) + 2) (hw : c[N]? = some w) (hx : w.1 = x) (hj : (jfld x)[y]? = some 3) (hv : w.2.2.getD y 0 = v) (hp : pc + 3 = pc') : RF j pc ls (vR t :: st) (zS L c) g = RF j pc' ls (vR v :: st) (zS L c) g := by
  subst hp hv
  refine RF_row hc rfl ?_
  show a_getf x y (pc + 3) ls (vR t :: st) (zS L c) g = _
  unfold a_getf
  dsimp only
  rw [if_pos ((kin_z ht hw).trans hx), hj]
  have e : t.toNat = N + 2 := by omega
  have hf : fin_ (zS L c) t y = w.2.2.getD y 0 := by
    unfold fin_
    rw [e, zS_g, hw]
  rw [hf]
  rfl
theorem m_getM (hc : look (codL j) pc = some (.getfield i, len, x, y, z)) (ht : t = (N : Int) + 2) (hw : c[N]? = some w) (hx : w.1 = x) (hj : (jfld x)[y]? = some 2) (hv : g t y = v) {M : Nat} {w' : AShp} (hm : v = (M : Int) + 2) (hw' : c[M]? = some w') (hx' : w'.1 = jrk x y) (hp : pc + 3 = pc') : RF j pc ls (vR t :: st) (zS L c) g = RF j pc' ls (vR v :: st) (zS L c) g := by
  subst hp
  refine RF_row hc rfl ?_
  show a_getf x y (pc + 3) ls (vR t :: st) (zS L c) g = _
  unfold a_getf
  dsimp only
  rw [if_pos ((kin_z ht hw).trans hx), hj]
  show (if kin (zS L c) (g t (y : Int)) = jrk x y then _ else none) = _
  rw [hv, if_pos ((kin_z hm hw').trans hx')]
theorem m_putF (hc : look (codL j) pc = some (.putfield i, len, x, y, z)) (ht : t = (N : Int) + 2) (hw : c[N]? = some w) (hx : w.1 = x) (hj : (jfld x)[y]? = some 3) (hy : y < w.2.2.length) (hp : pc + 3 = pc') (hz : c.set N (w.1, w.2.1, w.2.2.set y v) = c') : RF j pc ls (vR v :: vR t :: st) (zS L c) g = RF j pc' ls st (zS L c') g := by
  subst hp hz
  refine RF_row hc rfl ?_
  show a_putf x y (pc + 3) ls (vR v :: vR t :: st) (zS L c) g = _
  have e : t.toNat = N + 2 := by omega
  unfold a_putf
  dsimp only
  rw [if_pos ((kin_z ht hw).trans hx), hj]
  show (if y < ((zS L c)[t.toNat]?.getD (0, 0, [])).2.2.length then _ else none) = _
  rw [e, zS_g, hw]
  dsimp only [Option.getD]
  rw [if_pos hy, zS_s]
theorem m_putM (hc : look (codL j) pc = some (.putfield i, len, x, y, z)) (ht : t = (N : Int) + 2) (hw : c[N]? = some w) (hx : w.1 = x) (hj : (jfld x)[y]? = some 2) (hp : pc + 3 = pc') (hg : up g t y v = g') : RF j pc ls (vR v :: vR t :: st) (zS L c) g = RF j pc' ls st (zS L c) g' := by
  subst hp hg
  refine RF_row hc rfl ?_
  show a_putf x y (pc + 3) ls (vR v :: vR t :: st) (zS L c) g = _
  unfold a_putf
  dsimp only
  rw [if_pos ((kin_z ht hw).trans hx), hj]
  rfl
theorem m_aast (hc : look (codL j) pc = some (.aastore, len, x, y, z)) (ht : t = (N : Int) + 2) (hw : c[N]? = some w) (hx : w.1 = 22 ∨ w.1 = 23) (hu : 0 ≤ u ∧ u < w.2.1 ∧ u.toNat < w.2.2.length) {M : Nat} {w' : AShp} (hm : v = (M : Int) + 2) (hw' : c[M]? = some w') (hk : (w.1 = 22 ∧ w'.1 = 0) ∨ (w.1 = 23 ∧ w'.1 = 2)) (hp : pc + 1 = pc') (hz : c.set N (w.1, w.2.1, w.2.2.set u.toNat v) = c') : RF j pc ls (vR v :: vI u :: vR t :: st) (zS L c) g = RF j pc' ls st (zS L c') g := by
  subst hp hz
  refine RF_row hc rfl ?_
  show a_aast (pc + 1) ls (vR v :: vI u :: vR t :: st) (zS L c) g = _
  have e : t.toNat = N + 2 := by omega
  have hr : rln (zS L c) t = w.2.1 := by
    unfold rln
    rw [e, zS_g, hw]
    exact if_pos hx
  unfold a_aast
  dsimp only
  rw [kin_z ht hw, kin_z hm hw', hr, e, zS_g, hw]
  dsimp only [Option.getD]
  rw [if_pos ⟨hu.1, hu.2.1, hu.2.2, hk⟩, zS_s]
theorem m_call {sh sh' : List AShp} {ls0 : List AVal} (hc : look (codL j) pc = some (ins, len, x, y, z)) (hk : akd ins x = 1) (hy : y ≤ st.length ∧ awg (st.drop y) ≤ 8 ∧ a_rcv (mtd x) sh (st.take y).reverse = true ∧ (aent (st.take y).reverse).length ≤ (mtd x).2.1) (hl : apad (aent (st.take y).reverse) (mtd x).2.1 = ls0) (hd : st.drop y = st') (hp : pc + 3 = pc') (he : RF x 0 ls0 [] sh g = some ([], sh', g')) : RF j pc ls st sh g = RF j pc' ls st' sh' g' := by
  subst hl hd hp
  rw [RF_call hc hk hy, he]
  rfl
end MAK
