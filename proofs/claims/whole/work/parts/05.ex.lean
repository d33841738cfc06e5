def apad (l : List AVal) (n : Nat) : List AVal := l ++ List.replicate (n - l.length) vU
/-- n rows of a method j from a place on, its calls among them -/
def ex : Nat → Nat → Nat → List AVal → List AVal → List AShp → AMem → Option ARes
  | 0, _, _, _, _, _, _ => none
  | n + 1, j, pc, ls, st, sh, g =>
    match look (codL j) pc with
    | none => none
    | some (ins, (_, (x, (y, z)))) =>
      match akd ins x with
      | 0 => match stp ins x y z pc ls st sh g with
        | some (pc', ls', st', sh', g') => ex n j pc' ls' st' sh' g'
        | none => none
      | 1 => if y ≤ st.length ∧ awg (st.drop y) ≤ 8 ∧ a_rcv (mtd x) sh (st.take y).reverse = true ∧ (aent (st.take y).reverse).length ≤ (mtd x).2.1 then
          match ex n x 0 (apad (aent (st.take y).reverse) (mtd x).2.1) [] sh g with
          | some r => ex n j (pc + 3) ls (r.1 ++ st.drop y) r.2.1 r.2.2
          | none => none
        else none
      | _ => match a_end ins (mtd j).2.2.1 st with
        | some v => some (v, sh, g)
        | none => none
def tch : Nat → List Cond
  | 0 => k2_sels lw_privs
  | 1 => tables_1_1
  | 2 => tables_1_2
  | 3 => tables_1_3
  | 4 => tables_1_4
  | 5 => tables_1_5
  | _ => tables_1_6
theorem tch_in {k i : Nat} {w : Cond} (h : (tch k)[i]? = some w) (hg : goodWord w = true) : w ∈ wsA := by
  have hm := List.mem_of_getElem? h
  refine List.mem_filter.mpr ⟨?_, hg⟩
  unfold lw_tbl
  have ht : ∀ q : Cond, q ∈ tables_1_1 ∨ q ∈ tables_1_2 ∨ q ∈ tables_1_3 ∨ q ∈ tables_1_4 ∨ q ∈ tables_1_5 ∨ q ∈ tables_1_6 → q ∈ tables_1 := by
    intro q hq
    unfold tables_1
    simp only [List.mem_append]
    exact hq
  match k, hm with
  | 0, hm => exact List.mem_append_left _ hm
  | 1, hm => exact List.mem_append_right _ (ht _ (Or.inl hm))
  | 2, hm => exact List.mem_append_right _ (ht _ (Or.inr (Or.inl hm)))
  | 3, hm => exact List.mem_append_right _ (ht _ (Or.inr (Or.inr (Or.inl hm))))
  | 4, hm => exact List.mem_append_right _ (ht _ (Or.inr (Or.inr (Or.inr (Or.inl hm)))))
  | 5, hm => exact List.mem_append_right _ (ht _ (Or.inr (Or.inr (Or.inr (Or.inr (Or.inl hm))))))
  | _ + 6, hm => exact List.mem_append_right _ (ht _ (Or.inr (Or.inr (Or.inr (Or.inr (Or.inr hm))))))
def vcl (x : Nat) : vw_C := vwCl.getD x (RX0, TX0, 0)
def nestW : List Cond := [.methodLinkNest RX11 61 yX1_init RX11, .methodLinkNest RX3 32 yX11_isBelow RX11, .methodLinkNest RX9 26 yX11_isBelow RX11, .methodLinkNest RX8 61 yX11_isBelow RX11]
/-- the words of a row -/
def nWords (j : Nat) (ins : Instr) (x y : Nat) (z : Int) : List Cond := match ins with
  | .ldc i => [.constant (ynm j).cls i (Int32.ofInt z)]
  | .ldc2_w i => [.constantLong (ynm j).cls i (Int64.ofInt z)]
  | .getfield i => [.fieldLink (ynm j).cls i (vcl x).1 ((vcl x).2.1 y).2.1 ((vcl x).2.1 y).2.2.1]
  | .putfield i => [.fieldLink (ynm j).cls i (vcl x).1 ((vcl x).2.1 y).2.1 ((vcl x).2.1 y).2.2.1]
  | .new i => [.classLink (ynm j).cls i (vcl x).1, .instantiable (vcl x).1 (vcl x).2.2, .initialized (vcl x).1]
  | .newarray t => [.arrayClass (newarray.typeOf t)]
  | .anewarray i => [.classLink (ynm j).cls i (if x = 22 then RX0 else RX2)]
  | .invokevirtual i => [.methodLink (ynm j).cls i (ynm x), .instanceMethod (ynm x), .selects (ynm x).cls (ynm x) (ynm x), .initialized (ynm x).cls, .code (ynm x) (bcm x) (mtd x).2.1 (rtm x)]
  | .invokestatic i => if x = 1001 then [.methodLink (ynm j).cls i arraycopyName, .native arraycopyName, .static arraycopyName, .initialized "java/lang/System"]
    else if x = 1002 then [.methodLink (ynm j).cls i Lib.Math.max.name, .static Lib.Math.max.name, .initialized "java/lang/Math", .code Lib.Math.max.name Lib.Math.max.code 2 (some .int)]
    else if 1001 ≤ x then [.methodLink (ynm j).cls i Lib.Math.min.name, .static Lib.Math.min.name, .initialized "java/lang/Math", .code Lib.Math.min.name Lib.Math.min.code 2 (some .int)]
    else (if z = 0 then [.methodLink (ynm j).cls i (ynm x)] else []) ++ [.static (ynm x), .initialized (ynm x).cls, .code (ynm x) (bcm x) (mtd x).2.1 (rtm x)]
  | .invokespecial i => if x = 1000 then [.methodLink (ynm j).cls i objectInit, .instanceMethod objectInit, .code objectInit ⟨#[0xb1]⟩ 1 none]
    else (if z = 0 then [.methodLink (ynm j).cls i (ynm x)] else []) ++ [.instanceMethod (ynm x), .initialized (ynm x).cls, .code (ynm x) (bcm x) (mtd x).2.1 (rtm x)]
  | _ => []
def cRoom (j x : Nat) : Bool := decide ((mtd x).2.2.2.2.1 + 1 ≤ (mtd j).2.2.2.2.1 ∧ 8 + ((mtd x).2.1 + 11) + (mtd x).2.2.2.2.2.1 ≤ (mtd j).2.2.2.2.2.1)
def cOk (j x y : Nat) (h : Nat) : Bool := cRoom j x && decide ((mtd x).2.2.2.2.2.2 = h) && decide ((ynm x).cls ≠ "java/lang/invoke/MethodHandle" ∧ (ynm x).cls ≠ "java/lang/invoke/VarHandle")
  && decide ((parseMethodDescriptor (ynm x).desc).map (fun d => d.parameters.length) = some (if h = 1 then y else y - 1)) && decide (h = 1 ∨ 1 ≤ y) && decide (x < nlaw) && decide (h = 0 → (mtd x).1 < 11 ∧ (vcl (mtd x).1).1 = (ynm x).cls)
/-- what a row must fulfil in numbers -/
def nBool (j pc : Nat) (ins : Instr) (len x y : Nat) (z : Int) : Bool := match ins with
  | .iconst n => decide (len = 1 ∧ iw n = n)
  | .bipush n => decide (len = 2 ∧ (Int8.ofInt n).toInt32 = Int32.ofInt n ∧ iw n = n)
  | .sipush n => decide (len = 3 ∧ (Int16.ofInt n).toInt32 = Int32.ofInt n ∧ iw n = n)
  | .ldc _ => decide (len = 2 ∧ iw z = z)
  | .ldc2_w _ => decide (len = 3 ∧ lw z = z)
  | .lconst n => decide (len = 1 ∧ Int64.ofNat (n : Nat) = Int64.ofInt (n : Nat))
  | .iload_n _ => decide (len = 1)
  | .iload _ => decide (len = 2)
  | .lload_n _ => decide (len = 1)
  | .lload _ => decide (len = 2)
  | .aload_n _ => decide (len = 1)
  | .aload _ => decide (len = 2)
  | .istore_n _ => decide (len = 1)
  | .istore _ => decide (len = 2)
  | .lstore_n _ => decide (len = 1)
  | .lstore _ => decide (len = 2)
  | .astore_n _ => decide (len = 1)
  | .astore _ => decide (len = 2)
  | .iinc _ _ => decide (len = 3)
  | .ifCond _ o => decide (len = 3 ∧ 0 ≤ (pc : Int) + o)
  | .if_icmp _ o => decide (len = 3 ∧ 0 ≤ (pc : Int) + o)
  | .goto o => decide (len = 3 ∧ 0 ≤ (pc : Int) + o)
  | .tableswitch _ _ _ _ => true
  | .lookupswitch _ ps => (ps.toList.zip (ps.toList.drop 1)).all (fun (a, next) => a.1 < next.1)
  | .getfield _ => decide (len = 3 ∧ x < 11)
  | .putfield _ => decide (len = 3 ∧ x < 11) && (match (jfld x)[y]?, parseFieldDescriptor ((vcl x).2.1 y).2.2.1 with
    | some 0, some .int => !((vcl x).2.1 y).2.2.2
    | some 1, some .long => !((vcl x).2.1 y).2.2.2
    | some 2, some (.object _) => !((vcl x).2.1 y).2.2.2
    | some 2, some (.array _) => !((vcl x).2.1 y).2.2.2
    | some 3, some (.object _) => ((vcl x).2.1 y).2.2.2 && decide ((ynm j).name = "<init>" ∧ ((vcl x).2.1 y).1 = (ynm j).cls)
    | some 3, some (.array _) => ((vcl x).2.1 y).2.2.2 && decide ((ynm j).name = "<init>" ∧ ((vcl x).2.1 y).1 = (ynm j).cls)
    | _, _ => false)
  | .new _ => decide (len = 3 ∧ x < 11)
  | .newarray _ => decide (len = 2)
  | .anewarray _ => decide (len = 3)
  | .invokevirtual _ => decide (len = 3) && cOk j x y 0
  | .invokestatic i => decide (len = 3) && (if 1001 ≤ x then decide (1 ≤ (mtd j).2.2.2.2.1 ∧ 60 ≤ (mtd j).2.2.2.2.2.1) else cOk j x y 1 && decide (z = 0 ∨ (.methodLinkNest (ynm j).cls i (ynm x) RX11) ∈ nestW))
  | .invokespecial i => decide (len = 3) && (if x = 1000 then decide (1 ≤ (mtd j).2.2.2.2.1 ∧ 14 ≤ (mtd j).2.2.2.2.2.1) else cOk j x y 2 && decide ((ynm x).name = "<init>" ∧ rtm x = none) && decide (z = 0 ∨ (.methodLinkNest (ynm j).cls i (ynm x) RX11) ∈ nestW))
  | _ => decide (len = 1)
def rok (j : Nat) (r : ACe) : Prop := decode (bcm j) r.1 = .ok (r.2.1, r.2.2.1) ∧ nBool j r.1 r.2.1 r.2.2.1 r.2.2.2.1 r.2.2.2.2.1 r.2.2.2.2.2 = true ∧ ∀ w ∈ nWords j r.2.1 r.2.2.2.1 r.2.2.2.2.1 r.2.2.2.2.2, w ∈ wsA
def wchk (ws : List Cond) (hs : List (Nat × Nat)) : Bool := decide (ws.map some = hs.map (fun q => (tch q.1)[q.2]?)) && ws.all goodWord
theorem wchk_in {ws : List Cond} {hs : List (Nat × Nat)} (h : wchk ws hs = true) : ∀ w ∈ ws, w ∈ wsA := by
  unfold wchk at h
  simp only [Bool.and_eq_true, decide_eq_true_eq] at h
  intro w hw
  have h1 : some w ∈ hs.map (fun q => (tch q.1)[q.2]?) := by rw [← h.1]; exact List.mem_map_of_mem hw
  obtain ⟨q, -, hq⟩ := List.mem_map.mp h1
  exact tch_in hq (List.all_eq_true.mp h.2 w hw)
def rchk (j : Nat) : List ACe → List (List (Nat × Nat)) → Bool
  | [], [] => true
  | r :: t, hs :: u => decide (decode (bcm j) r.1 = .ok (r.2.1, r.2.2.1)) && nBool j r.1 r.2.1 r.2.2.1 r.2.2.2.1 r.2.2.2.2.1 r.2.2.2.2.2 && wchk (nWords j r.2.1 r.2.2.2.1 r.2.2.2.2.1 r.2.2.2.2.2) hs && rchk j t u
  | _, _ => false
theorem rchk_ok {j : Nat} : ∀ {t : List ACe} {u : List (List (Nat × Nat))}, rchk j t u = true → ∀ r ∈ t, rok j r
  | [], _, _, r, hr => by cases hr
  | q :: t, [], h, r, hr => by simp [rchk] at h
  | q :: t, hs :: u, h, r, hr => by
    simp only [rchk, Bool.and_eq_true, decide_eq_true_eq] at h
    rcases List.mem_cons.mp hr with e | e
    · subst e
      exact ⟨h.1.1.1, h.1.1.2, wchk_in h.1.2⟩
    · exact rchk_ok h.2 r e
