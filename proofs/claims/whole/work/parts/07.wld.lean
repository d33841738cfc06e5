/-! numbers -/
theorem ofI_iw (x : Int) : Int32.ofInt (iw x) = Int32.ofInt x := by
  apply Int32.toInt_inj.1
  rw [Int32.toInt_ofInt, Int32.toInt_ofInt]
  exact Int.bmod_bmod
theorem ofL_lw (x : Int) : Int64.ofInt (lw x) = Int64.ofInt x := by
  apply Int64.toInt_inj.1
  rw [Int64.toInt_ofInt, Int64.toInt_ofInt]
  exact Int.bmod_bmod
theorem toI_of {x : Int} (h : iw x = x) : (Int32.ofInt x).toInt = x := by
  rw [Int32.toInt_ofInt]
  exact h
theorem toL_of {x : Int} (h : lw x = x) : (Int64.ofInt x).toInt = x := by
  rw [Int64.toInt_ofInt]
  exact h
theorem iw_iw (x : Int) : iw (iw x) = iw x := Int.bmod_bmod
theorem lw_lw (x : Int) : lw (lw x) = lw x := Int.bmod_bmod
theorem iw_toInt (x : Int32) : iw x.toInt = x.toInt := Int32.toInt_bmod x
theorem iw_bd {x : Int} (h : iw x = x) : -2147483648 ≤ x ∧ x < 2147483648 := by
  have a := Int32.le_toInt (Int32.ofInt x)
  have c := Int32.toInt_lt (Int32.ofInt x)
  rw [toI_of h] at a c
  omega
theorem iw_id {x : Int} (h1 : -2147483648 ≤ x) (h2 : x < 2147483648) : iw x = x := by
  have h := Int32.toInt_ofInt_of_le (n := x) (by omega) (by omega)
  rw [Int32.toInt_ofInt] at h
  exact h
theorem lw_id {x : Int} (h1 : -9223372036854775808 ≤ x) (h2 : x < 9223372036854775808) : lw x = x := by
  have h := Int64.toInt_ofInt_of_le (n := x) (by omega) (by omega)
  rw [Int64.toInt_ofInt] at h
  exact h
theorem lw_of_iw {x : Int} (h : iw x = x) : lw x = x := by
  have a := iw_bd h
  exact lw_id (by omega) (by omega)
theorem ofI_add (x y : Int) : Int32.ofInt (iw (x + y)) = Int32.ofInt x + Int32.ofInt y := by rw [ofI_iw, Int32.ofInt_add]
theorem ofI_sub (x y : Int) : Int32.ofInt (iw (x - y)) = Int32.ofInt x - Int32.ofInt y := by rw [ofI_iw, Int32.ofInt_sub]
theorem ofI_mul (x y : Int) : Int32.ofInt (iw (x * y)) = Int32.ofInt x * Int32.ofInt y := by rw [ofI_iw, Int32.ofInt_mul]
theorem ofI_div {x y : Int} (hx : iw x = x) (hy : iw y = y) : Int32.ofInt (iw (x.tdiv y)) = Int32.ofInt x / Int32.ofInt y := by
  apply Int32.toInt_inj.1
  rw [Int32.toInt_div, toI_of hx, toI_of hy, ofI_iw, Int32.toInt_ofInt]
theorem ofI_rem {x y : Int} (hx : iw x = x) (hy : iw y = y) : Int32.ofInt (iw (x - x.tdiv y * y)) = Int32.ofInt x - Int32.ofInt x / Int32.ofInt y * Int32.ofInt y := by
  rw [ofI_iw, Int32.ofInt_sub, Int32.ofInt_mul, ← ofI_div hx hy, ofI_iw]
theorem ofL_add (x y : Int) : Int64.ofInt (lw (x + y)) = Int64.ofInt x + Int64.ofInt y := by rw [ofL_lw, Int64.ofInt_add]
theorem ofL_mul (x y : Int) : Int64.ofInt (lw (x * y)) = Int64.ofInt x * Int64.ofInt y := by rw [ofL_lw, Int64.ofInt_mul]
theorem ofL_div {x y : Int} (hx : lw x = x) (hy : lw y = y) : Int64.ofInt (lw (x.tdiv y)) = Int64.ofInt x / Int64.ofInt y := by
  apply Int64.toInt_inj.1
  rw [Int64.toInt_div, toL_of hx, toL_of hy, ofL_lw, Int64.toInt_ofInt]
theorem ofL_rem {x y : Int} (hx : lw x = x) (hy : lw y = y) : Int64.ofInt (lw (x - x.tdiv y * y)) = Int64.ofInt x - Int64.ofInt x / Int64.ofInt y * Int64.ofInt y := by
  rw [ofL_lw, Int64.ofInt_sub, Int64.ofInt_mul, ← ofL_div hx hy, ofL_lw]
theorem ofI_inj {x y : Int} (hx : iw x = x) (hy : iw y = y) : Int32.ofInt x = Int32.ofInt y ↔ x = y :=
  ⟨fun h => by rw [← toI_of hx, ← toI_of hy, h], fun h => by rw [h]⟩
theorem ofL_inj {x y : Int} (hx : lw x = x) (hy : lw y = y) : Int64.ofInt x = Int64.ofInt y ↔ x = y :=
  ⟨fun h => by rw [← toL_of hx, ← toL_of hy, h], fun h => by rw [h]⟩
theorem ofI_lt {x y : Int} (hx : iw x = x) (hy : iw y = y) : Int32.ofInt x < Int32.ofInt y ↔ x < y := by
  rw [Int32.lt_iff_toInt_lt, toI_of hx, toI_of hy]
theorem ofI_le {x y : Int} (hx : iw x = x) (hy : iw y = y) : Int32.ofInt x ≤ Int32.ofInt y ↔ x ≤ y := by
  rw [Int32.le_iff_toInt_le, toI_of hx, toI_of hy]
theorem ofI_0 : (0 : Int32) = Int32.ofInt 0 := by decide +kernel
theorem ofL_0 : (0 : Int64) = Int64.ofInt 0 := by decide +kernel
theorem iw_0 : iw 0 = 0 := by decide +kernel
theorem lw_0 : lw 0 = 0 := by decide +kernel
theorem ofL_cmp {x y : Int} (hx : lw x = x) (hy : lw y = y) : Int32.ofInt (if y < x then 1 else if x = y then 0 else -1) = lg_cmp (Int64.ofInt x) (Int64.ofInt y) := by
  unfold lg_cmp
  simp only [gt_iff_lt, Int64.lt_iff_toInt_lt, toL_of hx, toL_of hy, ofL_inj hx hy]
  split
  · decide +kernel
  · split <;> decide +kernel
theorem i2l_of {x : Int} (hx : iw x = x) : (Int32.ofInt x).toInt64 = Int64.ofInt x := by
  apply Int64.toInt_inj.1
  rw [Int32.toInt_toInt64, toI_of hx, toL_of (lw_of_iw hx)]
theorem l2i_of (x : Int) : (Int64.ofInt x).toInt32 = Int32.ofInt (iw x) := by rw [Int64.toInt32_ofInt, ofI_iw]
theorem ofI_in {i : Int} {n : Nat} (hi : iw i = i) : vp_in (Int32.ofInt i) n ↔ 0 ≤ i ∧ i < n := by rw [vp_in_iff, toI_of hi]
theorem ofI_nat {i : Int} (hi : iw i = i) : (Int32.ofInt i).toNatClampNeg = i.toNat := by rw [← Int32.toNat_toInt, toI_of hi]
/-! cells -/
def adr (b base : Nat) (x : Int) : Nat := if x = 1 then b else base + (x.toNat - 2)
def rfo (b base : Nat) (x : Int) : Option Nat := if 1 ≤ x then some (adr b base x) else none
def evv (b base : Nat) : AVal → Value
  | .inl x => .int (Int32.ofInt x)
  | .inr (.inl x) => .long (Int64.ofInt x)
  | .inr (.inr (.inl x)) => va_rf (rfo b base x)
  | .inr (.inr (.inr _)) => .null
theorem adr_2 {b base : Nat} {x : Int} (h : 2 ≤ x) : adr b base x = base + (x.toNat - 2) := if_neg (by omega)
theorem evv_r {b base : Nat} {x : Int} (h : 1 ≤ x) : evv b base (vR x) = .ref (adr b base x) := by
  show va_rf (rfo b base x) = _
  rw [rfo, if_pos h]
  rfl
def fvl (t : Nat) (x r : Int) : AVal := match t with
  | 0 => vI x
  | 1 => vL x
  | 2 => vR x
  | _ => vR r
def fldE (b base : Nat) (s : AShp) (a : Int) (g : AMem) : List Value := (List.range (jfld s.1).length).map (fun (k : Nat) => evv b base (fvl ((jfld s.1).getD k 0) (g a k) (s.2.2.getD k 0)))
def celE (b base : Nat) (cs : Nat → ClassId) (s : AShp) (a : Int) (g : AMem) : va_E :=
  if s.1 = 20 then .inl (cs 0, s.2.1, .inl (fun (j : Nat) => Int32.ofInt (g a j)))
  else if s.1 = 21 then .inl (cs 1, s.2.1, .inl (fun (j : Nat) => Int32.ofInt (g a j)))
  else if s.1 = 22 then .inl (cs 2, s.2.1, .inr (.inr (.inr (.inr (fun (j : Nat) => rfo b base (s.2.2.getD j 0))))))
  else if s.1 = 23 then .inl (cs 3, s.2.1, .inr (.inr (.inr (.inr (fun (j : Nat) => rfo b base (s.2.2.getD j 0))))))
  else .inr (s.1, fldE b base s a g)
def WSa (b base : Nat) (cs : Nat → ClassId) (sh : List AShp) (g : AMem) : va_W := (List.range (sh.length - 2)).map (fun (k : Nat) => (base + k, celE b base cs (sh.getD (k + 2) (0, 0, [])) ((k : Int) + 2) g))
section WLD
variable {b base : Nat} {cs : Nat → ClassId} {sh : List AShp} {g g' : AMem}
theorem ws_len : (WSa b base cs sh g).length = sh.length - 2 := by simp [WSa]
theorem ws_ix {k : Nat} (hk : k < sh.length - 2) : (WSa b base cs sh g)[k]? = some (base + k, celE b base cs (sh.getD (k + 2) (0, 0, [])) ((k : Int) + 2) g) := by
  unfold WSa
  rw [List.getElem?_map, List.getElem?_range hk]
  rfl
theorem ws_at {t : Int} {s : AShp} (hs : sh[t.toNat]? = some s) (h2 : 2 ≤ t) : (WSa b base cs sh g)[t.toNat - 2]? = some (adr b base t, celE b base cs s t g) := by
  have hl := (List.getElem?_eq_some_iff.mp hs).1
  have e : t.toNat - 2 + 2 = t.toNat := by omega
  have e2 : ((t.toNat - 2 : Nat) : Int) + 2 = t := by omega
  rw [ws_ix (by omega), e, e2, adr_2 h2, List.getD_eq_getElem?_getD, hs]
  rfl
theorem celE_cong {s : AShp} {a : Int} (h : ∀ k : Int, g' a k = g a k) : celE b base cs s a g' = celE b base cs s a g := by
  unfold celE fldE
  simp only [h]
theorem ws_mem {t : Int} {s : AShp} (hs : sh[t.toNat]? = some s) (h2 : 2 ≤ t) (hg : ∀ a k : Int, a ≠ t → g' a k = g a k) : WSa b base cs sh g' = (WSa b base cs sh g).set (t.toNat - 2) (adr b base t, celE b base cs s t g') := by
  have hl := (List.getElem?_eq_some_iff.mp hs).1
  apply List.ext_getElem?
  intro k
  by_cases hk : k < sh.length - 2
  · by_cases hkt : k = t.toNat - 2
    · subst hkt
      rw [ws_at hs h2, List.getElem?_set_self (by rw [ws_len]; exact hk)]
    · rw [List.getElem?_set_ne (Ne.symm hkt), ws_ix hk, ws_ix hk, celE_cong (fun q => hg _ q (by omega))]
  · rw [List.getElem?_eq_none (by rw [ws_len]; omega), List.getElem?_eq_none (by rw [List.length_set, ws_len]; omega)]
theorem ws_shp {t : Int} {s' : AShp} (ht : t.toNat < sh.length) (h2 : 2 ≤ t) : WSa b base cs (sh.set t.toNat s') g = (WSa b base cs sh g).set (t.toNat - 2) (adr b base t, celE b base cs s' t g) := by
  apply List.ext_getElem?
  intro k
  by_cases hk : k < sh.length - 2
  · by_cases hkt : k = t.toNat - 2
    · subst hkt
      rw [ws_at (s := s') (by rw [List.getElem?_set_self ht]) h2, List.getElem?_set_self (by rw [ws_len]; exact hk)]
    · rw [List.getElem?_set_ne (Ne.symm hkt), ws_ix (by rw [List.length_set]; exact hk), ws_ix hk]
      rw [List.getD_eq_getElem?_getD, List.getElem?_set_ne (by omega), ← List.getD_eq_getElem?_getD]
  · rw [List.getElem?_eq_none (by rw [ws_len, List.length_set]; omega), List.getElem?_eq_none (by rw [List.length_set, ws_len]; omega)]
theorem ws_psh {s : AShp} (h2 : 2 ≤ sh.length) (hg : ∀ a k : Int, a ≠ sh.length → g' a k = g a k) : WSa b base cs (sh ++ [s]) g' = WSa b base cs sh g ++ [(base + (sh.length - 2), celE b base cs s sh.length g')] := by
  have hl : (WSa b base cs sh g).length = sh.length - 2 := ws_len
  apply List.ext_getElem?
  intro k
  by_cases hk : k < sh.length - 2
  · rw [List.getElem?_append_left (by rw [hl]; exact hk), ws_ix hk, ws_ix (by rw [List.length_append, List.length_singleton]; omega), celE_cong (fun q => hg _ q (by omega))]
    rw [List.getD_eq_getElem?_getD, List.getElem?_append_left (by omega), ← List.getD_eq_getElem?_getD]
  · by_cases hk2 : k = sh.length - 2
    · subst hk2
      rw [List.getElem?_append_right (by rw [hl]; omega), hl, Nat.sub_self, ws_ix (by rw [List.length_append, List.length_singleton]; omega)]
      have e : sh.length - 2 + 2 = sh.length := by omega
      have e2 : ((sh.length - 2 : Nat) : Int) + 2 = sh.length := by omega
      rw [e, e2, List.getD_eq_getElem?_getD, List.getElem?_append_right (by omega), Nat.sub_self]
      rfl
    · rw [List.getElem?_eq_none (by rw [ws_len, List.length_append, List.length_singleton]; omega), List.getElem?_eq_none (by rw [List.length_append, hl, List.length_singleton]; omega)]
theorem ws_D : va_D (fun q : Nat => base ≤ q) (WSa b base cs sh g) := by
  have key : ∀ (k : Nat) (q : Nat × va_E), (WSa b base cs sh g)[k]? = some q → q.1 = base + k := by
    intro k q hq
    have hk : k < sh.length - 2 := by
      have := (List.getElem?_eq_some_iff.mp hq).1
      rwa [ws_len] at this
    rw [ws_ix hk] at hq
    cases hq
    rfl
  refine ⟨fun i j p q hp hq e => ?_, fun k q hq => ?_⟩
  · have h1 := key i p hp
    have h2 := key j q hq
    omega
  · show base ≤ q.1
    rw [key k q hq]
    omega
theorem fld_at {s : AShp} {a : Int} {y t : Nat} (hy : (jfld s.1)[y]? = some t) : (fldE b base s a g)[y]? = some (evv b base (fvl t (g a y) (s.2.2.getD y 0))) := by
  have hl := (List.getElem?_eq_some_iff.mp hy).1
  unfold fldE
  rw [List.getElem?_map, List.getElem?_range hl]
  simp only [Option.map_some, List.getD_eq_getElem?_getD, hy, Option.getD_some]
theorem fld_len {s : AShp} {a : Int} : (fldE b base s a g).length = (jfld s.1).length := by simp [fldE]
theorem fld_put {s : AShp} {a x : Int} {y t : Nat} (hy : (jfld s.1)[y]? = some t) : fldE b base s a (up g a y x) = (fldE b base s a g).set y (evv b base (fvl t x (s.2.2.getD y 0))) := by
  have hl := (List.getElem?_eq_some_iff.mp hy).1
  apply List.ext_getElem?
  intro k
  by_cases hk : k < (jfld s.1).length
  · obtain ⟨q, hq⟩ : ∃ q, (jfld s.1)[k]? = some q := ⟨_, List.getElem?_eq_getElem hk⟩
    by_cases hky : k = y
    · subst hky
      rw [List.getElem?_set_self (by rw [fld_len]; exact hl), fld_at hy]
      simp [up]
    · rw [List.getElem?_set_ne (Ne.symm hky), fld_at hq, fld_at hq]
      have : ¬ ((k : Int) = (y : Int)) := by omega
      simp [up, this]
  · rw [List.getElem?_eq_none (by rw [fld_len]; omega), List.getElem?_eq_none (by rw [List.length_set, fld_len]; omega)]
theorem fld_fin {s : AShp} {a x : Int} {y : Nat} (hy : (jfld s.1)[y]? = some 3) (hr : y < s.2.2.length) : fldE b base (s.1, s.2.1, s.2.2.set y x) a g = (fldE b base s a g).set y (evv b base (vR x)) := by
  have hl := (List.getElem?_eq_some_iff.mp hy).1
  apply List.ext_getElem?
  intro k
  by_cases hk : k < (jfld s.1).length
  · obtain ⟨q, hq⟩ : ∃ q, (jfld s.1)[k]? = some q := ⟨_, List.getElem?_eq_getElem hk⟩
    by_cases hky : k = y
    · subst hky
      rw [List.getElem?_set_self (by rw [fld_len]; exact hl), fld_at (s := (s.1, s.2.1, s.2.2.set k x)) hy]
      simp [fvl, List.getD_eq_getElem?_getD, List.getElem?_set_self hr]
    · rw [List.getElem?_set_ne (Ne.symm hky), fld_at (s := (s.1, s.2.1, s.2.2.set y x)) hq, fld_at hq]
      simp only [List.getD_eq_getElem?_getD, List.getElem?_set_ne (Ne.symm hky)]
  · rw [List.getElem?_eq_none (by rw [fld_len]; exact Nat.not_lt.mp hk), List.getElem?_eq_none (by rw [List.length_set, fld_len]; omega)]
end WLD
