/-! rings come in whole turns -/
def itI (f : Int → Int) : Nat → Int → Int
  | 0, i => i
  | k + 1, i => f (itI f k i)
theorem itI_1 {f : Int → Int} : ∀ {k : Nat} {i : Int}, itI f k (f i) = itI f (k + 1) i
  | 0, i => rfl
  | k + 1, i => by
    rw [itI, itI_1 (k := k), itI]
    rfl
theorem cnB_v {v : Int} : ∀ {n : Nat}, 0 ≤ v → v < n → cnB (fun j => decide (v = j)) n = 1
  | 0, h0, h1 => by omega
  | n + 1, h0, h1 => by
    rw [cnB]
    by_cases e : v = n
    · rw [if_pos (by simp [e])]
      have : cnB (fun j => decide (v = j)) n = 0 := by
        by_cases h : 0 < cnB (fun j => decide (v = j)) n
        · obtain ⟨i, i0, i1, i2⟩ := cnB_p h
          simp only [decide_eq_true_eq] at i2
          omega
        · have := cnB_b (f := fun j => decide (v = j)) (k := n)
          omega
      omega
    · rw [if_neg (by simp [e]), cnB_v h0 (by omega)]
      rfl
theorem cnO {F : Nat → Int} {n : Nat} : ∀ {s : Nat}, (∀ k, k < s → 0 ≤ F k ∧ F k < n) → (∀ a b, a < b → b < s → F a ≠ F b) → cnB (fun j => anB (fun k => decide (F k.toNat = j)) s) n = s
  | 0, _, _ => by
    have : cnB (fun j => anB (fun k => decide (F k.toNat = j)) 0) n = 0 := by
      by_cases h : 0 < cnB (fun j => anB (fun k => decide (F k.toNat = j)) 0) n
      · obtain ⟨i, i0, i1, i2⟩ := cnB_p h
        simp [anB] at i2
      · have := cnB_b (f := fun j => anB (fun k => decide (F k.toNat = j)) 0) (k := n)
        omega
    rw [this]
    rfl
  | s + 1, hr, hd => by
    have ih := cnO (F := F) (s := s) (fun k hk => hr k (by omega)) (fun a b h1 h2 => hd a b h1 (by omega))
    have hv := hr s (by omega)
    rw [cnB_o (f := fun j => anB (fun k => decide (F k.toNat = j)) s) (g := fun j => decide (F s = j)) (h := fun j => anB (fun k => decide (F k.toNat = j)) (s + 1)) (fun j => by
      show (anB (fun k => decide (F k.toNat = j)) s || decide (F ((s : Int).toNat) = j)) = _
      rw [show (s : Int).toNat = s by omega]) (fun j => by
      rw [Bool.eq_false_iff]
      intro hc
      simp only [Bool.and_eq_true, decide_eq_true_eq] at hc
      obtain ⟨k, k0, k1, k2⟩ := anB_t.mp hc.1
      simp only [decide_eq_true_eq] at k2
      exact hd k.toNat s (by omega) (by omega) (by rw [k2, hc.2])), ih, cnB_v hv.1 hv.2]
    omega
theorem orbD (f : Int → Int) (s n : Nat) (hs : 1 ≤ s) : ∀ (N : Nat) (S : Int → Bool), cnB S n ≤ N → (∀ i, S i = true → 0 ≤ i → i < n → 0 ≤ f i ∧ f i < n ∧ S (f i) = true) → (∀ i j, S i = true → S j = true → 0 ≤ i → i < n → 0 ≤ j → j < n → f i = f j → i = j) → (∀ i, S i = true → 0 ≤ i → i < n → itI f s i = i ∧ ∀ k, 0 < k → k < s → itI f k i ≠ i) → ∃ q : Int, cnB S n = s * q := by
  intro N
  induction N with
  | zero =>
    intro S hN _ _ _
    have := cnB_b (f := S) (k := n)
    exact ⟨0, by omega⟩
  | succ N ih =>
    intro S hN hc hi hp
    by_cases hz : 0 < cnB S n
    · obtain ⟨i0, a0, a1, a2⟩ := cnB_p hz
      have hin : ∀ k, 0 ≤ itI f k i0 ∧ itI f k i0 < n ∧ S (itI f k i0) = true := by
        intro k
        induction k with
        | zero => exact ⟨a0, a1, a2⟩
        | succ k ih => exact hc _ ih.2.2 ih.1 ih.2.1
      have hback : ∀ a d, itI f (a + d) i0 = itI f a i0 → itI f d i0 = i0 := by
        intro a
        induction a with
        | zero =>
          intro d h
          rw [show 0 + d = d by omega] at h
          exact h
        | succ a iha =>
          intro d h
          apply iha
          rw [show a + 1 + d = a + d + 1 by omega, itI, itI] at h
          exact hi _ _ (hin _).2.2 (hin _).2.2 (hin _).1 (hin _).2.1 (hin _).1 (hin _).2.1 h
      have hdis : ∀ a b, a < b → b < s → itI f a i0 ≠ itI f b i0 := fun a b h1 h2 h3 =>
        (hp i0 a2 a0 a1).2 (b - a) (by omega) (by omega) (hback a (b - a) (by rw [show a + (b - a) = b by omega]; exact h3.symm))
      have hO := cnO (F := fun k => itI f k i0) (n := n) (s := s) (fun k _ => ⟨(hin k).1, (hin k).2.1⟩) hdis
      obtain ⟨O, hOd⟩ : ∃ O : Int → Bool, O = fun j => anB (fun k => decide (itI f k.toNat i0 = j)) s := ⟨_, rfl⟩
      have hOt : ∀ j, O j = true ↔ ∃ k, k < s ∧ itI f k i0 = j := by
        intro j
        rw [hOd]
        constructor
        · intro h
          obtain ⟨k, k0, k1, k2⟩ := anB_t.mp h
          simp only [decide_eq_true_eq] at k2
          exact ⟨k.toNat, by omega, k2⟩
        · rintro ⟨k, k1, k2⟩
          exact anB_t.mpr ⟨k, by omega, by omega, by rw [show (k : Int).toNat = k by omega]; simp [k2]⟩
      have hOn : cnB O n = s := by
        rw [hOd]
        exact hO
      have hsum : cnB S n = cnB O n + cnB (fun j => S j && !(O j)) n := cnB_o (fun j => by
        cases ho : O j with
        | false => simp
        | true =>
          obtain ⟨k, k1, k2⟩ := (hOt j).mp ho
          rw [← k2, (hin k).2.2]
          rfl) (fun j => by cases O j <;> simp)
      have hkeep : ∀ i, S i = true → 0 ≤ i → i < n → O (f i) = true → O i = true := by
        intro i s1 s2 s3 ho
        obtain ⟨k, k1, k2⟩ := (hOt _).mp ho
        cases k with
        | zero =>
          have e1 : itI f s i0 = i0 := (hp i0 a2 a0 a1).1
          obtain ⟨s', rfl⟩ : ∃ s', s = s' + 1 := ⟨s - 1, by omega⟩
          rw [itI] at e1
          have : itI f s' i0 = i := hi _ _ (hin _).2.2 s1 (hin _).1 (hin _).2.1 s2 s3 (by rw [e1]; exact k2)
          exact (hOt i).mpr ⟨s', by omega, this⟩
        | succ k =>
          rw [itI] at k2
          have : itI f k i0 = i := hi _ _ (hin _).2.2 s1 (hin _).1 (hin _).2.1 s2 s3 k2
          exact (hOt i).mpr ⟨k, by omega, this⟩
      obtain ⟨q, hq⟩ := ih (fun j => S j && !(O j)) (by omega) (fun i h1 h2 h3 => by
        simp only [Bool.and_eq_true, Bool.not_eq_true'] at h1 ⊢
        have := hc i h1.1 h2 h3
        refine ⟨this.1, this.2.1, this.2.2, ?_⟩
        cases ho : O (f i) with
        | false => rfl
        | true =>
          rw [hkeep i h1.1 h2 h3 ho] at h1
          cases h1.2) (fun i j h1 h2 => by
        simp only [Bool.and_eq_true] at h1 h2
        exact hi i j h1.1 h2.1) (fun i h1 => by
        simp only [Bool.and_eq_true] at h1
        exact hp i h1.1)
      refine ⟨q + 1, ?_⟩
      rw [hsum, hOn, hq, Int.mul_add]
      omega
    · have := cnB_b (f := S) (k := n)
      exact ⟨0, by omega⟩
def rcF (V : AMem) (e s i : Int) : Bool := opB V e i && decide (rgZ V e i = s)
section RI3
variable {L : Nat} {V g : AMem} {e i j p s w : Int}
theorem sxK_it : ∀ {k : Nat}, sxK V e p k = itI (sxI V e) k p
  | 0 => rfl
  | k + 1 => by rw [sxK, itI, sxK_it]
theorem rgF_x : ∀ (m t : Nat), rgF V e p m (sxK V e p t) (t + 1) ≠ 0 → ∃ r : Nat, rgF V e p m (sxK V e p t) (t + 1) = r ∧ t < r ∧ r ≤ t + m ∧ sxK V e p r = p ∧ ∀ k, t < k → k ≤ r → 0 ≤ sxK V e p k ∧ (k < r → sxK V e p k ≠ p)
  | 0, t, h => absurd rfl h
  | m + 1, t, h => by
    rw [rgF] at h ⊢
    by_cases q1 : sxI V e (sxK V e p t) < 0
    · rw [if_pos q1] at h
      exact absurd rfl h
    · rw [if_neg q1] at h ⊢
      by_cases q2 : sxI V e (sxK V e p t) = p
      · rw [if_pos q2]
        refine ⟨t + 1, by omega, by omega, by omega, q2, fun k k0 k1 => ?_⟩
        rw [show k = t + 1 by omega]
        refine ⟨?_, fun h => by omega⟩
        rw [sxK]
        omega
      · rw [if_neg q2] at h ⊢
        have ih := rgF_x m (t + 1)
        rw [show ((t + 1 : Nat) : Int) = (t : Int) + 1 by omega] at ih
        obtain ⟨r, r1, r2, r3, r4, r5⟩ := ih h
        refine ⟨r, r1, by omega, by omega, r4, fun k k0 k1 => ?_⟩
        by_cases c : k = t + 1
        · rw [c, sxK]
          exact ⟨by omega, fun _ => q2⟩
        · exact r5 k (by omega) k1
theorem rgF_y : ∀ (m t : Nat) (r : Nat), t < r → r ≤ t + m → sxK V e p r = p → (∀ k, t < k → k ≤ r → 0 ≤ sxK V e p k ∧ (k < r → sxK V e p k ≠ p)) → rgF V e p m (sxK V e p t) (t + 1) = r
  | 0, t, r, h1, h2, _, _ => by omega
  | m + 1, t, r, h1, h2, h3, h4 => by
    have ht := h4 (t + 1) (by omega) (by omega)
    rw [sxK] at ht
    rw [rgF, if_neg (by omega)]
    by_cases c : r = t + 1
    · rw [c, sxK] at h3
      rw [if_pos h3]
      omega
    · rw [if_neg (ht.2 (by omega))]
      have ih := rgF_y m (t + 1) r (by omega) (by omega) h3 (fun k k0 k1 => h4 k (by omega) k1)
      rw [show ((t + 1 : Nat) : Int) = (t : Int) + 1 by omega] at ih
      exact ih
theorem rgZ_x (ho : opB V e p = true) (hz : rgZ V e p ≠ 0) : ∃ r : Nat, rgZ V e p = r ∧ 0 < r ∧ r ≤ (V 1 (V 3 e)).toNat ∧ sxK V e p r = p ∧ ∀ k, 0 < k → k ≤ r → 0 ≤ sxK V e p k ∧ (k < r → sxK V e p k ≠ p) := by
  unfold rgZ at hz ⊢
  rw [if_pos ho] at hz ⊢
  obtain ⟨r, r1, r2, r3, r4, r5⟩ := rgF_x (V := V) (e := e) (p := p) (V 1 (V 3 e)).toNat 0 hz
  exact ⟨r, r1, r2, by omega, r4, r5⟩
theorem rgZ_1 (ho : opB V e p = true) : rgZ V e p ≠ 1 := by
  intro h
  obtain ⟨r, r1, r2, r3, r4, r5⟩ := rgZ_x ho (by omega)
  have e1 : r = 1 := by omega
  rw [e1, sxK, sxK] at r4
  have h1 := (r5 1 (by omega) (by omega)).1
  rw [sxK, sxK] at h1
  rcases sxI_b (V := V) (e := e) (i := p) with q | q
  · omega
  · have := q.2.2.2.1
    rw [r4] at this
    unfold opB vMv at ho
    simp only [decide_eq_true_eq] at ho
    exact ho.1 this.symm
theorem rc_div (hV : VaV V) (he0 : 0 ≤ e) (he1 : e < V 0 1) (r : Nat) (h2 : 2 ≤ r) : ∃ q : Int, cnB (rcF V e r) (V 1 (V 3 e)).toNat = r * q := by
  have hn := edg_n hV he0 he1
  have hx : ∀ i, rcF V e r i = true → opB V e i = true ∧ r ≤ (V 1 (V 3 e)).toNat ∧ sxK V e i r = i ∧ ∀ k, 0 < k → k ≤ r → 0 ≤ sxK V e i k ∧ (k < r → sxK V e i k ≠ i) := by
    intro i hi
    unfold rcF at hi
    simp only [Bool.and_eq_true, decide_eq_true_eq] at hi
    obtain ⟨r', r1, r2, r3, r4, r5⟩ := rgZ_x hi.1 (by omega)
    have : r' = r := by omega
    subst this
    exact ⟨hi.1, r3, r4, r5⟩
  have hinj : ∀ i j, rcF V e r i = true → opB V e j = true → 0 ≤ i → i < V 1 (V 3 e) → 0 ≤ j → j < V 1 (V 3 e) → sxI V e i = sxI V e j → i = j := by
    intro i j hi oj i0 i1 j0 j1 he
    obtain ⟨o1, o2, o3, o4⟩ := hx i hi
    have p1 := (o4 1 (by omega) (by omega)).1
    have p2 := (o4 2 (by omega) (by omega)).1
    rw [sxK, sxK] at p1
    rw [sxK, sxK, sxK] at p2
    have hw : wtC V e (V (10 + V 3 e) (sxI V e i)) = 1 := by
      rcases sxI_b (V := V) (e := e) (i := sxI V e i) with q | q
      · omega
      · exact q.2.2.2.2
    exact sxI_i i0 i1 o1 j0 j1 oj p1 he hw
  refine orbD (sxI V e) r (V 1 (V 3 e)).toNat (by omega) (V 1 (V 3 e)).toNat (rcF V e r) (by have := cnB_b (f := rcF V e r) (k := (V 1 (V 3 e)).toNat); omega) (fun i hi i0 i1 => ?_) (fun i j hi hj i0 i1 j0 j1 h => ?_) (fun i hi i0 i1 => ?_)
  · obtain ⟨o1, o2, o3, o4⟩ := hx i hi
    have p1 := (o4 1 (by omega) (by omega)).1
    rw [sxK, sxK] at p1
    rcases sxI_b (V := V) (e := e) (i := i) with q | q
    · omega
    · refine ⟨q.1, by omega, ?_⟩
      have hsh : ∀ k, sxK V e (sxI V e i) k = sxK V e i (k + 1) := fun k => by rw [sxK_it, sxK_it, itI_1]
      have hz := rgF_y (V := V) (e := e) (p := sxI V e i) (V 1 (V 3 e)).toNat 0 r (by omega) (by omega) (by rw [hsh, sxK, o3]) (fun k k0 k1 => by
        rw [hsh]
        by_cases c : k = r
        · rw [c, sxK, o3]
          exact ⟨p1, fun h => by omega⟩
        · refine ⟨(o4 (k + 1) (by omega) (by omega)).1, fun _ hc => ?_⟩
          rw [sxK] at hc
          have hk := o4 k k0 (by omega)
          have hko : opB V e (sxK V e i k) = true ∧ sxK V e i k < V 1 (V 3 e) := by
            obtain ⟨k', rfl⟩ : ∃ k', k = k' + 1 := ⟨k - 1, by omega⟩
            rw [sxK] at hk ⊢
            rcases sxI_b (V := V) (e := e) (i := sxK V e i k') with q | q
            · omega
            · exact ⟨q.2.2.1, q.2.1⟩
          exact hk.2 (by omega) (hinj i _ hi hko.1 i0 (by omega) hk.1 hko.2 hc.symm).symm)
      unfold rcF rgZ
      rw [q.2.2.1, if_pos rfl]
      have : rgF V e (sxI V e i) (V 1 (V 3 e)).toNat (sxI V e i) 1 = r := hz
      rw [this]
      simp
  · have hj2 := (hx j hj).1
    exact hinj i j hi hj2 i0 (by omega) j0 (by omega) h
  · obtain ⟨o1, o2, o3, o4⟩ := hx i hi
    refine ⟨by rw [← sxK_it]; exact o3, fun k k0 k1 => by rw [← sxK_it]; exact (o4 k k0 (by omega)).2 k1⟩
theorem pr_sum (hV : VaV V) (he0 : 0 ≤ e) (he1 : e < V 0 1) : ∀ {k : Nat}, smI (prT V e) k = 30 * cnB (rcF V e 2) k + 20 * cnB (rcF V e 3) k + 15 * cnB (rcF V e 4) k + 12 * cnB (rcF V e 5) k + 10 * cnB (rcF V e 6) k
  | 0 => by simp [smI, cnB]
  | k + 1 => by
    have ih := pr_sum hV he0 he1 (k := k)
    have hb := rgZ_b (i := (k : Int)) hV he0 he1
    rw [smI, ih, cnB, cnB, cnB, cnB, cnB]
    have hd : ∀ s, rcF V e s k = (opB V e k && decide (rgZ V e k = s)) := fun s => rfl
    unfold prT
    by_cases ho : opB V e k = true
    · have h1 := rgZ_1 ho
      simp only [hd, ho, Bool.true_and, decide_eq_true_eq]
      generalize rgZ V e k = z at hb h1 ⊢
      have hz : z = 0 ∨ z = 2 ∨ z = 3 ∨ z = 4 ∨ z = 5 ∨ z = 6 := by omega
      rcases hz with h | h | h | h | h | h <;> subst h <;> simp <;> omega
    · have hz : rgZ V e k = 0 := by
        unfold rgZ
        rw [if_neg ho]
      simp only [hd, Bool.eq_false_iff.mpr ho, hz, Bool.false_and]
      simp
theorem rc_sum (hV : VaV V) (he0 : 0 ≤ e) (he1 : e < V 0 1) : smI (prT V e) (V 1 (V 3 e)).toNat / 60 = cnB (rcF V e 2) (V 1 (V 3 e)).toNat / 2 + cnB (rcF V e 3) (V 1 (V 3 e)).toNat / 3 + cnB (rcF V e 4) (V 1 (V 3 e)).toNat / 4 + cnB (rcF V e 5) (V 1 (V 3 e)).toNat / 5 + cnB (rcF V e 6) (V 1 (V 3 e)).toNat / 6 := by
  obtain ⟨q2, h2⟩ := rc_div hV he0 he1 2 (by omega)
  obtain ⟨q3, h3⟩ := rc_div hV he0 he1 3 (by omega)
  obtain ⟨q4, h4⟩ := rc_div hV he0 he1 4 (by omega)
  obtain ⟨q5, h5⟩ := rc_div hV he0 he1 5 (by omega)
  obtain ⟨q6, h6⟩ := rc_div hV he0 he1 6 (by omega)
  have e2 : ((2 : Nat) : Int) = 2 := rfl
  have e3 : ((3 : Nat) : Int) = 3 := rfl
  have e4 : ((4 : Nat) : Int) = 4 := rfl
  have e5 : ((5 : Nat) : Int) = 5 := rfl
  have e6 : ((6 : Nat) : Int) = 6 := rfl
  rw [e2] at h2
  rw [e3] at h3
  rw [e4] at h4
  rw [e5] at h5
  rw [e6] at h6
  rw [pr_sum hV he0 he1, h2, h3, h4, h5, h6]
  omega
end RI3
