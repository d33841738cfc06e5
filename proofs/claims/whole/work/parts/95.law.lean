/-! the law: its walk, and its answer -/
section WLK
variable {L : Nat} {xs : Nat → Int32} {V g : AMem} {i : Int}
def w_u (x : Int) : Int := (Int32.ofInt x &&& Int32.ofInt 31).toInt
theorem w_len {z : Int} (hl : L ≤ 2048) : stp .arraylength 0 0 z 20 [vR 1, vR 2, vR 137, vI i] [vR 1, vI i] (SH L) g = some (21, [vR 1, vR 2, vR 137, vI i], [vI (L : Int), vI i], SH L, g) := by
  show a_alen 21 [vR 1, vR 2, vR 137, vI i] [vR 1, vI i] (SH L) g = _
  unfold a_alen
  dsimp only
  rw [aln_1, if_pos ⟨Or.inr rfl, by omega⟩]
theorem w_gtN {z : Int} (h : i ≤ (L : Int) - 4) : stp (.if_icmp .gt 939) 0 0 z 23 [vR 1, vR 2, vR 137, vI i] [vI ((L : Int) - 4), vI i] (SH L) g = some (26, [vR 1, vR 2, vR 137, vI i], [], SH L, g) := by
  show a_ic .gt 962 26 [vR 1, vR 2, vR 137, vI i] [vI ((L : Int) - 4), vI i] (SH L) g = _
  unfold a_ic
  dsimp only
  cases hd : acndD .gt i ((L : Int) - 4) with
  | isTrue q =>
    have q' : (L : Int) - 4 < i := q
    omega
  | isFalse q => rfl
theorem w_gtY {z : Int} (h : (L : Int) - 4 < i) : stp (.if_icmp .gt 939) 0 0 z 23 [vR 1, vR 2, vR 137, vI i] [vI ((L : Int) - 4), vI i] (SH L) g = some (962, [vR 1, vR 2, vR 137, vI i], [], SH L, g) := by
  show a_ic .gt 962 26 [vR 1, vR 2, vR 137, vI i] [vI ((L : Int) - 4), vI i] (SH L) g = _
  unfold a_ic
  dsimp only
  cases hd : acndD .gt i ((L : Int) - 4) with
  | isTrue q => rfl
  | isFalse q => exact absurd h q
theorem w_ald {z : Int} (h0 : 0 ≤ i) (h1 : i < L) : stp .iaload 0 0 z 28 [vR 1, vR 2, vR 137, vI i] [vI i, vR 1] (SH L) g = some (29, [vR 1, vR 2, vR 137, vI i], [vI (g 1 i)], SH L, g) := by
  show a_iald 29 [vR 1, vR 2, vR 137, vI i] [vI i, vR 1] (SH L) g = _
  unfold a_iald
  dsimp only
  rw [aln_1, if_pos ⟨h0, h1⟩]
theorem w_head (h : Inv L xs V g) (hi : 0 ≤ i) (hL : i + 4 ≤ L) (hl : L ≤ 2048) : RF 226 18 [vR 1, vR 2, vR 137, vI i] [] (SH L) g = RF 226 32 [vR 1, vR 2, vR 137, vI i] [vI (w_u (g 1 i))] (SH L) g := by
  rw [RF_row (pc' := 19) (ls' := [vR 1, vR 2, vR 137, vI i]) (st' := [vI i]) (sh' := SH L) (g' := g) k226_18 rfl rfl]
  rw [RF_row (pc' := 20) (ls' := [vR 1, vR 2, vR 137, vI i]) (st' := [vR 1, vI i]) (sh' := SH L) (g' := g) k226_19 rfl rfl]
  rw [RF_row (pc' := 21) (ls' := [vR 1, vR 2, vR 137, vI i]) (st' := [vI (L : Int), vI i]) (sh' := SH L) (g' := g) k226_20 rfl (w_len hl)]
  rw [RF_row (pc' := 22) (ls' := [vR 1, vR 2, vR 137, vI i]) (st' := [vI 4, vI (L : Int), vI i]) (sh' := SH L) (g' := g) k226_21 rfl rfl]
  rw [RF_row (pc' := 23) (ls' := [vR 1, vR 2, vR 137, vI i]) (st' := [vI (iw (L - 4)), vI i]) (sh' := SH L) (g' := g) k226_22 rfl rfl]
  rw [iw_id (x := (L : Int) - 4) (by omega) (by omega)]
  rw [RF_row (pc' := 26) (ls' := [vR 1, vR 2, vR 137, vI i]) (st' := []) (sh' := SH L) (g' := g) k226_23 rfl (w_gtN (by omega))]
  rw [RF_row (pc' := 27) (ls' := [vR 1, vR 2, vR 137, vI i]) (st' := [vR 1]) (sh' := SH L) (g' := g) k226_26 rfl rfl]
  rw [RF_row (pc' := 28) (ls' := [vR 1, vR 2, vR 137, vI i]) (st' := [vI i, vR 1]) (sh' := SH L) (g' := g) k226_27 rfl rfl]
  rw [RF_row (pc' := 29) (ls' := [vR 1, vR 2, vR 137, vI i]) (st' := [vI (g 1 i)]) (sh' := SH L) (g' := g) k226_28 rfl (w_ald hi (by omega))]
  rw [RF_row (pc' := 31) (ls' := [vR 1, vR 2, vR 137, vI i]) (st' := [vI 31, vI (g 1 i)]) (sh' := SH L) (g' := g) k226_29 rfl rfl]
  exact RF_row k226_31 rfl rfl
theorem w_last (hi : 0 ≤ i) (hL : (L : Int) < i + 4) (hl : L ≤ 2048) : RF 226 18 [vR 1, vR 2, vR 137, vI i] [] (SH L) g = some ([vI 1], SH L, g) := by
  rw [RF_row (pc' := 19) (ls' := [vR 1, vR 2, vR 137, vI i]) (st' := [vI i]) (sh' := SH L) (g' := g) k226_18 rfl rfl]
  rw [RF_row (pc' := 20) (ls' := [vR 1, vR 2, vR 137, vI i]) (st' := [vR 1, vI i]) (sh' := SH L) (g' := g) k226_19 rfl rfl]
  rw [RF_row (pc' := 21) (ls' := [vR 1, vR 2, vR 137, vI i]) (st' := [vI (L : Int), vI i]) (sh' := SH L) (g' := g) k226_20 rfl (w_len hl)]
  rw [RF_row (pc' := 22) (ls' := [vR 1, vR 2, vR 137, vI i]) (st' := [vI 4, vI (L : Int), vI i]) (sh' := SH L) (g' := g) k226_21 rfl rfl]
  rw [RF_row (pc' := 23) (ls' := [vR 1, vR 2, vR 137, vI i]) (st' := [vI (iw (L - 4)), vI i]) (sh' := SH L) (g' := g) k226_22 rfl rfl]
  rw [iw_id (x := (L : Int) - 4) (by omega) (by omega)]
  rw [RF_row (pc' := 962) (ls' := [vR 1, vR 2, vR 137, vI i]) (st' := []) (sh' := SH L) (g' := g) k226_23 rfl (w_gtY (by omega))]
  rw [RF_row (pc' := 963) (ls' := [vR 1, vR 2, vR 137, vI i]) (st' := [vI 1]) (sh' := SH L) (g' := g) k226_962 rfl rfl]
  exact RF_end k226_963 rfl rfl
theorem w_step (h : Inv L xs V g) (hi : 0 ≤ i) (hL : i + 4 ≤ L) (hl : L ≤ 2048) : ∃ V' g', RF 226 18 [vR 1, vR 2, vR 137, vI i] [] (SH L) g = RF 226 18 [vR 1, vR 2, vR 137, vI (i + 4)] [] (SH L) g' ∧ Inv L xs V' g' := by
  rw [w_head h hi hL hl]
  have hu : (w_u (g 1 i) < 0 ∨ 27 < w_u (g 1 i)) ∨ w_u (g 1 i) = 0 ∨ w_u (g 1 i) = 1 ∨ w_u (g 1 i) = 2 ∨ w_u (g 1 i) = 3 ∨ w_u (g 1 i) = 4 ∨ w_u (g 1 i) = 5 ∨ w_u (g 1 i) = 6 ∨ w_u (g 1 i) = 7 ∨ w_u (g 1 i) = 8 ∨ w_u (g 1 i) = 9 ∨ w_u (g 1 i) = 10 ∨ w_u (g 1 i) = 11 ∨ w_u (g 1 i) = 12 ∨ w_u (g 1 i) = 13 ∨ w_u (g 1 i) = 14 ∨ w_u (g 1 i) = 15 ∨ w_u (g 1 i) = 16 ∨ w_u (g 1 i) = 17 ∨ w_u (g 1 i) = 18 ∨ w_u (g 1 i) = 19 ∨ w_u (g 1 i) = 20 ∨ w_u (g 1 i) = 21 ∨ w_u (g 1 i) = 22 ∨ w_u (g 1 i) = 23 ∨ w_u (g 1 i) = 24 ∨ w_u (g 1 i) = 25 ∨ w_u (g 1 i) = 26 ∨ w_u (g 1 i) = 27 := by omega
  rcases hu with hu | hu | hu | hu | hu | hu | hu | hu | hu | hu | hu | hu | hu | hu | hu | hu | hu | hu | hu | hu | hu | hu | hu | hu | hu | hu | hu | hu | hu
  · refine ⟨V, g, ?_, h⟩
    rw [RF_row (pc' := 956) (ls' := [vR 1, vR 2, vR 137, vI i]) (st' := []) (sh' := SH L) (g' := g) k226_32 rfl (e_tsw hu (by decide))]
    rw [RF_row (pc' := 959) (ls' := [vR 1, vR 2, vR 137, vI (iw (i + 4))]) (st' := []) (sh' := SH L) (g' := g) k226_956 rfl rfl]
    rw [iw_n (by omega) (by omega)]
    exact RF_row k226_959 rfl rfl
  · rw [RF_row (pc' := 160) (ls' := [vR 1, vR 2, vR 137, vI i]) (st' := []) (sh' := SH L) (g' := g) k226_32 rfl (e_top hu rfl)]
    exact lc_0 h hi hL hl
  · rw [RF_row (pc' := 173) (ls' := [vR 1, vR 2, vR 137, vI i]) (st' := []) (sh' := SH L) (g' := g) k226_32 rfl (e_top hu rfl)]
    exact lc_1 h hi hL hl
  · rw [RF_row (pc' := 186) (ls' := [vR 1, vR 2, vR 137, vI i]) (st' := []) (sh' := SH L) (g' := g) k226_32 rfl (e_top hu rfl)]
    exact lc_2 h hi hL hl
  · rw [RF_row (pc' := 219) (ls' := [vR 1, vR 2, vR 137, vI i]) (st' := []) (sh' := SH L) (g' := g) k226_32 rfl (e_top hu rfl)]
    exact lc_3 h hi hL hl
  · rw [RF_row (pc' := 262) (ls' := [vR 1, vR 2, vR 137, vI i]) (st' := []) (sh' := SH L) (g' := g) k226_32 rfl (e_top hu rfl)]
    exact lc_4 h hi hL hl
  · rw [RF_row (pc' := 305) (ls' := [vR 1, vR 2, vR 137, vI i]) (st' := []) (sh' := SH L) (g' := g) k226_32 rfl (e_top hu rfl)]
    exact lc_5 h hi hL hl
  · rw [RF_row (pc' := 338) (ls' := [vR 1, vR 2, vR 137, vI i]) (st' := []) (sh' := SH L) (g' := g) k226_32 rfl (e_top hu rfl)]
    exact lc_6 h hi hL hl
  · rw [RF_row (pc' := 361) (ls' := [vR 1, vR 2, vR 137, vI i]) (st' := []) (sh' := SH L) (g' := g) k226_32 rfl (e_top hu rfl)]
    exact lc_7 h hi hL hl
  · rw [RF_row (pc' := 394) (ls' := [vR 1, vR 2, vR 137, vI i]) (st' := []) (sh' := SH L) (g' := g) k226_32 rfl (e_top hu rfl)]
    exact lc_8 h hi hL hl
  · rw [RF_row (pc' := 427) (ls' := [vR 1, vR 2, vR 137, vI i]) (st' := []) (sh' := SH L) (g' := g) k226_32 rfl (e_top hu rfl)]
    exact lc_9 h hi hL hl
  · rw [RF_row (pc' := 460) (ls' := [vR 1, vR 2, vR 137, vI i]) (st' := []) (sh' := SH L) (g' := g) k226_32 rfl (e_top hu rfl)]
    exact lc_10 h hi hL hl
  · rw [RF_row (pc' := 493) (ls' := [vR 1, vR 2, vR 137, vI i]) (st' := []) (sh' := SH L) (g' := g) k226_32 rfl (e_top hu rfl)]
    exact lc_11 h hi hL hl
  · rw [RF_row (pc' := 516) (ls' := [vR 1, vR 2, vR 137, vI i]) (st' := []) (sh' := SH L) (g' := g) k226_32 rfl (e_top hu rfl)]
    exact lc_12 h hi hL hl
  · rw [RF_row (pc' := 529) (ls' := [vR 1, vR 2, vR 137, vI i]) (st' := []) (sh' := SH L) (g' := g) k226_32 rfl (e_top hu rfl)]
    exact lc_13 h hi hL hl
  · rw [RF_row (pc' := 542) (ls' := [vR 1, vR 2, vR 137, vI i]) (st' := []) (sh' := SH L) (g' := g) k226_32 rfl (e_top hu rfl)]
    exact lc_14 h hi hL hl
  · rw [RF_row (pc' := 575) (ls' := [vR 1, vR 2, vR 137, vI i]) (st' := []) (sh' := SH L) (g' := g) k226_32 rfl (e_top hu rfl)]
    exact lc_15 h hi hL hl
  · rw [RF_row (pc' := 618) (ls' := [vR 1, vR 2, vR 137, vI i]) (st' := []) (sh' := SH L) (g' := g) k226_32 rfl (e_top hu rfl)]
    exact lc_16 h hi hL hl
  · rw [RF_row (pc' := 641) (ls' := [vR 1, vR 2, vR 137, vI i]) (st' := []) (sh' := SH L) (g' := g) k226_32 rfl (e_top hu rfl)]
    exact lc_17 h hi hL hl
  · rw [RF_row (pc' := 674) (ls' := [vR 1, vR 2, vR 137, vI i]) (st' := []) (sh' := SH L) (g' := g) k226_32 rfl (e_top hu rfl)]
    exact lc_18 h hi hL hl
  · rw [RF_row (pc' := 707) (ls' := [vR 1, vR 2, vR 137, vI i]) (st' := []) (sh' := SH L) (g' := g) k226_32 rfl (e_top hu rfl)]
    exact lc_19 h hi hL hl
  · rw [RF_row (pc' := 740) (ls' := [vR 1, vR 2, vR 137, vI i]) (st' := []) (sh' := SH L) (g' := g) k226_32 rfl (e_top hu rfl)]
    exact lc_20 h hi hL hl
  · rw [RF_row (pc' := 763) (ls' := [vR 1, vR 2, vR 137, vI i]) (st' := []) (sh' := SH L) (g' := g) k226_32 rfl (e_top hu rfl)]
    exact lc_21 h hi hL hl
  · rw [RF_row (pc' := 807) (ls' := [vR 1, vR 2, vR 137, vI i]) (st' := []) (sh' := SH L) (g' := g) k226_32 rfl (e_top hu rfl)]
    exact lc_22 h hi hL hl
  · rw [RF_row (pc' := 830) (ls' := [vR 1, vR 2, vR 137, vI i]) (st' := []) (sh' := SH L) (g' := g) k226_32 rfl (e_top hu rfl)]
    exact lc_23 h hi hL hl
  · rw [RF_row (pc' := 843) (ls' := [vR 1, vR 2, vR 137, vI i]) (st' := []) (sh' := SH L) (g' := g) k226_32 rfl (e_top hu rfl)]
    exact lc_24 h hi hL hl
  · rw [RF_row (pc' := 876) (ls' := [vR 1, vR 2, vR 137, vI i]) (st' := []) (sh' := SH L) (g' := g) k226_32 rfl (e_top hu rfl)]
    exact lc_25 h hi hL hl
  · rw [RF_row (pc' := 919) (ls' := [vR 1, vR 2, vR 137, vI i]) (st' := []) (sh' := SH L) (g' := g) k226_32 rfl (e_top hu rfl)]
    exact lc_26 h hi hL hl
  · rw [RF_row (pc' := 942) (ls' := [vR 1, vR 2, vR 137, vI i]) (st' := []) (sh' := SH L) (g' := g) k226_32 rfl (e_top hu rfl)]
    exact lc_27 h hi hL hl
theorem w_walk (hl : L ≤ 2048) : ∀ (n : Nat) (i : Int) (V g : AMem), 0 ≤ i → (L : Int) - i ≤ n → Inv L xs V g → ∃ g', RF 226 18 [vR 1, vR 2, vR 137, vI i] [] (SH L) g = some ([vI 1], SH L, g')
  | 0, i, V, g, hi, hn, h => ⟨g, w_last hi (by omega) hl⟩
  | n + 1, i, V, g, hi, hn, h => by
    by_cases hL : i + 4 ≤ L
    · obtain ⟨V', g1, e, h1⟩ := w_step h hi hL hl
      obtain ⟨g', e'⟩ := w_walk hl n (i + 4) V' g1 (by omega) (by omega) h1
      exact ⟨g', e.trans e'⟩
    · exact ⟨g, w_last hi (by omega) hl⟩
end WLK
theorem slt_SH {L : Nat} : slt (SH L) = L + slt SHT := by
  unfold slt SH
  rw [List.map_cons, List.map_cons, List.sum_cons, List.sum_cons]
  dsimp only
  omega
theorem lawOK : LawOK := by
  intro L hl xs
  obtain ⟨g', e⟩ := w_walk (xs := xs) hl L 0 V00 (fO oL (gS L xs)) (Int.le_refl _) (by omega) inv_0
  obtain ⟨n, hn⟩ := RF_ex ((law_start (L := L) (g := gS L xs)).trans e)
  refine ⟨n, SH L, g', hn, ?_, ?_⟩
  · show SHT.length + 2 ≤ 600000
    have h : SHT.length = 156 := by decide +kernel
    omega
  · have h : slt SHT ≤ 5000 := by decide +kernel
    rw [slt_SH]
    omega
