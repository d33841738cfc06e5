/-! what is read keeps the document's state -/
def TX (V W : AMem) : Prop := W 0 6 = V 0 6 ∧ (∀ i, W 5 i = V 5 i) ∧ ∀ k, 2 ≤ k → W 0 k = V 0 k
def GD (V : AMem) (p : Int) (r : PRes) : Prop := p ≤ r.2.1 ∧ r.2.1 ≤ V 0 6 ∧ (r.1 = true → p < r.2.1) ∧ VaV r.2.2 ∧ TX V r.2.2
section TX1
variable {V W : AMem} {b c e f hi i j lo n p q t w x : Int} {k : Nat}
theorem TX_np (hT : TX V W) (hb : 0 ≤ b) : TX V (npV W b x) := ⟨by rw [np_b (by omega) (by omega) (by omega)]; exact hT.1, fun i => by rw [np_b (by omega) (by omega) (by omega)]; exact hT.2.1 i, fun k hk => by rw [np_b (by omega) (by omega) (by omega)]; exact hT.2.2 k hk⟩
theorem TX_nb (hT : TX V W) : TX V (nbV W) := ⟨by rw [nb_n (by omega) (by omega)]; exact hT.1, fun i => by rw [nb_n (by omega) (by omega)]; exact hT.2.1 i, fun k hk => by rw [nb_n (by omega) (by omega)]; exact hT.2.2 k hk⟩
theorem TX_ne (hT : TX V W) (hn : 0 ≤ W 0 1) : TX V (neV W f t w) := ⟨by rw [ne_n (by omega) (by omega) (by omega)]; exact hT.1, fun i => by rw [ne_n (by omega) (by omega) (by omega)]; exact hT.2.1 i, fun k hk => by rw [ne_n (by omega) (by omega) (by omega)]; exact hT.2.2 k hk⟩
theorem TX_up (hT : TX V W) (he : 0 ≤ e) : TX V (up W (20 + e) i w) := ⟨by rw [up_n (by omega)]; exact hT.1, fun i => by rw [up_n (by omega)]; exact hT.2.1 i, fun k hk => by rw [up_n (by omega)]; exact hT.2.2 k hk⟩
theorem numB_i : numB V p lo hi = true ↔ 1 ≤ fgT V p ∧ fgT V p ≤ 3 ∧ lo ≤ numV V p ∧ numV V p ≤ hi := by
  unfold numB
  simp
theorem GD_f (hV : VaV W) (hT : TX V W) (h : p ≤ q) (h2 : q ≤ V 0 6) : GD V p (false, q, W) := ⟨h, h2, (fun q => by cases q), hV, hT⟩
theorem GD_t (h : p ≤ q) {r : PRes} (hG : GD V q r) : GD V p r := ⟨by have := hG.1; omega, hG.2.1, fun hr => by have := hG.2.2.1 hr; omega, hG.2.2.2⟩
theorem pEnd_I (hV : VaV W) (hT : TX V W) (hp : p ≤ V 0 6) : GD V p (pEnd V W p) := by
  have hs := skT_b hp
  unfold pEnd
  split
  · rename_i h
    exact ⟨by dsimp only; omega, by dsimp only; omega, fun _ => by dsimp only; omega, hV, hT⟩
  · exact GD_f hV hT hs.1 hs.2
theorem tkB_f (h : tkB W b x = false) : ∀ i, 0 ≤ i → i < W 1 b → shB (W (10 + b) i) x = false := fun i i0 i1 => by
  unfold tkB at h
  exact anB_f.mp h i i0 (by omega)
theorem pPar_I : ∀ (k : Nat) (W : AMem) (p : Int), VaV W → TX V W → p ≤ V 0 6 → 0 ≤ b → b < W 0 0 → GD V p (pPar V b k W p)
  | 0, W, p, hV, hT, hp, hb0, hb1 => GD_f hV hT (Int.le_refl _) hp
  | k + 1, W, p, hV, hT, hp, hb0, hb1 => by
    have hs := skT_b hp
    have hf := fgT_b (V := V) (p := skT V p)
    have hm := (hV.2.2.2.2.1 b hb0 hb1).1
    rw [pPar]
    split
    · split
      · exact GD_f hV hT hs.1 hs.2
      · split
        · rename_i h1 h2 h3
          have hn := numB_i.mp h3.1
          have ih := pPar_I k (npV W b (numV V (skT V p))) (skT V p + fgT V (skT V p)) (VaV_np hV hb0 hb1 (by omega) h3.2.1 (tkB_f h3.2.2)) (TX_np hT hb0) (hf.2 hs.2) hb0 (by rw [np_b (by omega) (by omega) (by omega)]; exact hb1)
          exact GD_t (by omega) ih
        · exact GD_f hV hT hs.1 hs.2
    · exact pEnd_I hV hT hp
theorem pBlk_I (hV : VaV W) (hT : TX V W) (hp : p < V 0 6) : GD V p (pBlk V W p) := by
  have h0 := hV.1
  unfold pBlk
  split
  · exact GD_f hV hT (Int.le_refl _) (by omega)
  · exact GD_t (by omega) (pPar_I 7 (nbV W) (p + 1) (VaV_nb hV (by omega)) (TX_nb hT) (by omega) h0.1 (by rw [nb_0]; omega))
theorem pGiv_I (hV : VaV W) (hT : TX V W) (hp : p ≤ V 0 6) (he0 : 0 ≤ e) (hi0 : 0 ≤ i) : GD V p (pGiv V W e i p) ∧ ∀ a j, a < 20 → (pGiv V W e i p).2.2 a j = W a j := by
  have hs := skT_b hp
  have hf := fgT_b (V := V) (p := skT V p)
  unfold pGiv
  split
  · rename_i hq
    have hf1 := fgT_b (V := V) (p := skT V p + 1)
    split
    · rename_i h
      have hn := numB_i.mp h
      exact ⟨⟨by dsimp only; omega, by dsimp only; omega, fun _ => by dsimp only; omega, VaV_up hV he0 hi0 (Or.inl (by omega)), TX_up hT he0⟩, fun a j q => up_n (by omega)⟩
    · exact ⟨GD_f hV hT hs.1 hs.2, fun _ _ _ => rfl⟩
  · split
    · rename_i h
      have hn := numB_i.mp h.1
      exact ⟨⟨by dsimp only; omega, by dsimp only; omega, fun _ => by dsimp only; omega, VaV_up hV he0 hi0 (Or.inr h.2), TX_up hT he0⟩, fun a j q => up_n (by omega)⟩
    · exact ⟨GD_f hV hT hs.1 hs.2, fun _ _ _ => rfl⟩
theorem pArg_I (he0 : 0 ≤ e) : ∀ (k : Nat) (W : AMem) (i p : Int), VaV W → TX V W → p ≤ V 0 6 → 0 ≤ i → GD V p (pArg V e k W i p)
  | 0, W, i, p, hV, hT, hp, hi => pEnd_I hV hT hp
  | k + 1, W, i, p, hV, hT, hp, hi => by
    have hg := (pGiv_I (e := e) (i := i) hV hT hp he0 hi).1
    rw [pArg]
    split
    · rename_i h
      exact GD_t hg.1 (pArg_I he0 k _ (i + 1) _ hg.2.2.2.1 hg.2.2.2.2 hg.2.1 (by omega))
    · exact GD_f hV hT hg.1 hg.2.1
theorem pEd4_I (hV : VaV W) (hT : TX V W) (hp : p ≤ V 0 6) (he0 : 0 ≤ e) : GD V p (pEd4 V W e p) := by
  have hs := skT_b hp
  unfold pEd4
  split
  · split
    · exact GD_f hV hT hs.1 hs.2
    · exact GD_t (by omega) (pArg_I he0 _ W 0 (skT V p + 1) hV hT (by omega) (Int.le_refl _))
  · exact pEnd_I hV hT hp
theorem pEd3_I (hV : VaV W) (hT : TX V W) (hp : p ≤ V 0 6) (hf0 : 0 ≤ f) (hf1 : f < W 0 0) (ht0 : 0 ≤ t) (ht1 : t < W 0 0) (hn : W 0 1 < 16) : GD V p (pEd3 V W f t p) := by
  have hs := skT_b hp
  have hf := fgT_b (V := V) (p := skT V p)
  have h1 := hV.2.1
  unfold pEd3
  split
  · rename_i h
    have hn2 := numB_i.mp h
    exact GD_t (by omega) (pEd4_I (VaV_ne hV hf0 hf1 ht0 ht1 (by omega) (by omega) hn) (TX_ne hT h1.1) (hf.2 hs.2) h1.1)
  · exact GD_f hV hT hs.1 hs.2
theorem pEd2_I (hV : VaV W) (hT : TX V W) (hp : p ≤ V 0 6) (hf0 : 0 ≤ f) (hf1 : f < W 0 0) (hn : W 0 1 < 16) : GD V p (pEd2 V W f p) := by
  have hs := skT_b hp
  have hf := fgT_b (V := V) (p := skT V p)
  unfold pEd2
  split
  · rename_i h
    have hn2 := numB_i.mp h
    exact GD_t (by omega) (pEd3_I hV hT (hf.2 hs.2) hf0 hf1 (by omega) (by omega) hn)
  · exact GD_f hV hT hs.1 hs.2
theorem pEd1_I (hV : VaV W) (hT : TX V W) (hp : p ≤ V 0 6) (hn : W 0 1 < 16) : GD V p (pEd1 V W p) := by
  have hs := skT_b hp
  have hf := fgT_b (V := V) (p := skT V p)
  unfold pEd1
  split
  · rename_i h
    have hn2 := numB_i.mp h
    exact GD_t (by omega) (pEd2_I hV hT (hf.2 hs.2) (by omega) (by omega) hn)
  · exact GD_f hV hT hs.1 hs.2
theorem pEdg_I (hV : VaV W) (hT : TX V W) (hp : p < V 0 6) : GD V p (pEdg V W p) := by
  have h1 := hV.2.1
  unfold pEdg
  split
  · exact GD_f hV hT (Int.le_refl _) (by omega)
  · exact GD_t (by omega) (pEd1_I hV hT (by omega) (by omega))
theorem pIt1_I (hV : VaV W) (hT : TX V W) (hp : p < V 0 6) : GD V p (pIt1 V W p) := by
  unfold pIt1
  split
  · exact pBlk_I hV hT hp
  · split
    · exact pEdg_I hV hT hp
    · exact GD_f hV hT (Int.le_refl _) (by omega)
theorem pIte_I (hn : V 0 6 ≤ 120) : ∀ (k : Nat) (W : AMem) (p c : Int), VaV W → TX V W → 0 ≤ p → p ≤ V 0 6 → 0 ≤ c → V 0 6 < p + k → (((pIte V k W p c).1 < 0 ∧ -420 ≤ (pIte V k W p c).1) ∨ (0 < (pIte V k W p c).1 ∧ (pIte V k W p c).1 ≤ c + k)) ∧ VaV (pIte V k W p c).2 ∧ TX V (pIte V k W p c).2
  | 0, W, p, c, hV, hT, h0, h1, hc, hk => by omega
  | k + 1, W, p, c, hV, hT, h0, h1, hc, hk => by
    have hs := skT_b h1
    rw [pIte]
    split
    · split
      · exact ⟨Or.inl (by dsimp only; omega), hV, hT⟩
      · exact ⟨Or.inr ⟨by dsimp only; omega, by dsimp only; omega⟩, hV, hT⟩
    · have hg := pIt1_I hV hT (p := skT V p) (by omega)
      have hg1 := hg.1
      have hg2 := hg.2.1
      split
      · rename_i h
        have hg3 := hg.2.2.1 h
        have ih := pIte_I hn k _ _ (c + 1) hg.2.2.2.1 hg.2.2.2.2 (by omega) hg2 (by omega) (by omega)
        refine ⟨?_, ih.2⟩
        rcases ih.1 with q | q
        · exact Or.inl q
        · exact Or.inr ⟨q.1, by have := q.2; omega⟩
      · exact ⟨Or.inl (by dsimp only; omega), hg.2.2.2⟩
theorem an_T (hV : VaV V) : TX V (oAnew V).2 := by
  unfold oAnew
  refine ⟨?_, fun i => ?_, fun k hk => ?_⟩
  · dsimp only
    rw [up_n (by omega), up_n (by omega)]
  · dsimp only
    rw [up_n (by omega), up_n (by omega)]
  · dsimp only
    rw [up_n (by omega), up_n (by omega)]
theorem oRead_V (hV : VaV V) : VaV (oRead V).2 := by
  have h6 := hV.2.2.2.1
  have h := pIte_I (V := V) h6.2 122 (oAnew V).2 0 0 (oAnew_V hV) (an_T hV) (by omega) h6.1 (by omega) (by omega)
  unfold oRead
  split
  · exact h.2.1
  · exact hV
end TX1
