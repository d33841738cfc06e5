/-! a machine of whole numbers: what a method does to a memory of numbers, with shapes of cells -/
abbrev AVal : Type := Int ⊕ (Int ⊕ (Int ⊕ Unit))
abbrev vI (x : Int) : AVal := .inl x
abbrev vL (x : Int) : AVal := .inr (.inl x)
abbrev vR (x : Int) : AVal := .inr (.inr (.inl x))
abbrev vU : AVal := .inr (.inr (.inr ()))
abbrev AMem : Type := Int → Int → Int
/-- kind (0 .. 10 objects, 20 ints, 21 booleans, 22, 23 rows of objects, 30 the script), how many, the references that stay -/
abbrev AShp : Type := Nat × (Nat × List Int)
/-- place, what, how long, two numbers, a constant -/
abbrev ACe : Type := Nat × (Instr × (Nat × (Nat × (Nat × Int))))
abbrev ACfg : Type := Nat × (List AVal × (List AVal × (List AShp × AMem)))
abbrev ARes : Type := List AVal × (List AShp × AMem)
def up (g : AMem) (a k x : Int) : AMem := fun a' k' => if a' = a ∧ k' = k then x else g a' k'
def zr (g : AMem) (a : Int) : AMem := fun a' k' => if a' = a then 0 else g a' k'
def cpy (g : AMem) (s sp d dp n : Int) : AMem := fun a' k' => if a' = d ∧ dp ≤ k' ∧ k' < dp + n then g s (sp + (k' - dp)) else g a' k'
def iw (x : Int) : Int := x.bmod 4294967296
def lw (x : Int) : Int := x.bmod 18446744073709551616
/-- the sorts of the places of objects: 0 int, 1 long, 2 a reference that changes, 3 one that stays -/
def jfld : Nat → List Nat
  | 0 => [3, 0]
  | 1 => [1]
  | 2 => [3, 0, 0, 0]
  | 3 => [3, 3, 0, 0]
  | 4 => [2, 2, 0]
  | 5 => [3, 3]
  | 6 => [3, 3, 3, 0, 0, 2, 0, 3, 3, 0]
  | 7 => [3, 2, 0, 0]
  | 8 => [3, 0]
  | 9 => [2, 2, 3, 3, 3, 3, 3, 3, 3, 3, 0, 0, 0, 0]
  | 10 => [3, 0, 0, 0, 3, 3, 3, 3, 3, 3, 0, 3, 3, 3, 3, 3, 0, 3, 3, 3, 3, 3, 3, 3, 0, 0, 0, 3]
  | _ => []
/-- what a reference that changes may tell of: the kind of its cell -/
def jrk (c k : Nat) : Nat := match c, k with
  | 4, _ => 20
  | 6, _ => 20
  | 7, _ => 3
  | 9, _ => 3
  | _, _ => 99
def kin (sh : List AShp) (a : Int) : Nat := match sh[a.toNat]? with
  | some s => if 2 ≤ a then s.1 else 98
  | none => 97
def fin_ (sh : List AShp) (a : Int) (k : Nat) : Int := match sh[a.toNat]? with
  | some s => s.2.2.getD k 0
  | none => 0
def aln (sh : List AShp) (a : Int) : Int := match sh[a.toNat]? with
  | some s => if s.1 = 20 ∨ (s.1 = 30 ∧ a = 1) then s.2.1 else 0
  | none => 0
def bln (sh : List AShp) (a : Int) : Int := match sh[a.toNat]? with
  | some s => if s.1 = 21 then s.2.1 else 0
  | none => 0
def rln (sh : List AShp) (a : Int) : Int := match sh[a.toNat]? with
  | some s => if s.1 = 22 ∨ s.1 = 23 then s.2.1 else 0
  | none => 0
def okst (ls : List AVal) (i : Nat) : Bool := match i with
  | 0 => true
  | j + 1 => match ls[j]? with
    | some (.inr (.inl _)) => false
    | _ => true
def acnd (c : ClassFile.Cond) (x y : Int) : Prop := match c with
  | .eq => x = y
  | .ne => x ≠ y
  | .lt => x < y
  | .ge => y ≤ x
  | .gt => y < x
  | .le => x ≤ y
def acndD (c : ClassFile.Cond) (x y : Int) : Decidable (acnd c x y) := match c with
  | .eq => inferInstanceAs (Decidable (x = y))
  | .ne => inferInstanceAs (Decidable (x ≠ y))
  | .lt => inferInstanceAs (Decidable (x < y))
  | .ge => inferInstanceAs (Decidable (y ≤ x))
  | .gt => inferInstanceAs (Decidable (y < x))
  | .le => inferInstanceAs (Decidable (x ≤ y))
def a_ldI (i pc' : Nat) (ls st : List AVal) (sh : List AShp) (g : AMem) : Option ACfg := match ls[i]? with
  | some (.inl x) => some (pc', ls, .inl x :: st, sh, g)
  | _ => none
def a_ldL (i pc' : Nat) (ls st : List AVal) (sh : List AShp) (g : AMem) : Option ACfg := match ls[i]? with
  | some (.inr (.inl x)) => some (pc', ls, vL x :: st, sh, g)
  | _ => none
def a_ldR (i pc' : Nat) (ls st : List AVal) (sh : List AShp) (g : AMem) : Option ACfg := match ls[i]? with
  | some (.inr (.inr (.inl x))) => if 1 ≤ x then some (pc', ls, vR x :: st, sh, g) else none
  | _ => none
def a_stI (i pc' : Nat) (ls st : List AVal) (sh : List AShp) (g : AMem) : Option ACfg := match st with
  | .inl x :: r => if i < ls.length ∧ okst ls i = true then some (pc', ls.set i (vI x), r, sh, g) else none
  | _ => none
def a_stR (i pc' : Nat) (ls st : List AVal) (sh : List AShp) (g : AMem) : Option ACfg := match st with
  | .inr (.inr (.inl x)) :: r => if i < ls.length ∧ okst ls i = true ∧ 1 ≤ x then some (pc', ls.set i (vR x), r, sh, g) else none
  | _ => none
def a_stL (i pc' : Nat) (ls st : List AVal) (sh : List AShp) (g : AMem) : Option ACfg := match st with
  | .inr (.inl x) :: r => if i + 1 < ls.length ∧ okst ls i = true then some (pc', (ls.set i (vL x)).set (i + 1) vU, r, sh, g) else none
  | _ => none
def a_inc (i : Nat) (n : Int) (pc' : Nat) (ls st : List AVal) (sh : List AShp) (g : AMem) : Option ACfg := match ls[i]? with
  | some (.inl x) => if okst ls i = true then some (pc', ls.set i (vI (iw (x + n))), st, sh, g) else none
  | _ => none
def a_bi (gd : Bool) (f : Int → Int → Int) (pc' : Nat) (ls st : List AVal) (sh : List AShp) (g : AMem) : Option ACfg := match st with
  | .inl y :: .inl x :: r => if gd = true ∧ y = 0 then none else some (pc', ls, vI (f x y) :: r, sh, g)
  | _ => none
def a_bl (gd : Bool) (f : Int → Int → Int) (pc' : Nat) (ls st : List AVal) (sh : List AShp) (g : AMem) : Option ACfg := match st with
  | .inr (.inl y) :: .inr (.inl x) :: r => if gd = true ∧ y = 0 then none else some (pc', ls, vL (f x y) :: r, sh, g)
  | _ => none
def a_lcmp (pc' : Nat) (ls st : List AVal) (sh : List AShp) (g : AMem) : Option ACfg := match st with
  | .inr (.inl y) :: .inr (.inl x) :: r => some (pc', ls, vI (if y < x then 1 else if x = y then 0 else -1) :: r, sh, g)
  | _ => none
def a_i2l (pc' : Nat) (ls st : List AVal) (sh : List AShp) (g : AMem) : Option ACfg := match st with
  | .inl x :: r => some (pc', ls, vL x :: r, sh, g)
  | _ => none
def a_l2i (pc' : Nat) (ls st : List AVal) (sh : List AShp) (g : AMem) : Option ACfg := match st with
  | .inr (.inl x) :: r => some (pc', ls, vI (iw x) :: r, sh, g)
  | _ => none
def ac1 : AVal → Bool
  | .inr (.inl _) => false
  | _ => true
def a_dup (pc' : Nat) (ls st : List AVal) (sh : List AShp) (g : AMem) : Option ACfg := match st with
  | v :: r => if ac1 v = true then some (pc', ls, v :: v :: r, sh, g) else none
  | _ => none
def a_dup2 (pc' : Nat) (ls st : List AVal) (sh : List AShp) (g : AMem) : Option ACfg := match st with
  | v :: w :: r => if ac1 v = true ∧ ac1 w = true then some (pc', ls, v :: w :: v :: w :: r, sh, g) else none
  | _ => none
def a_pop (pc' : Nat) (ls st : List AVal) (sh : List AShp) (g : AMem) : Option ACfg := match st with
  | v :: r => if ac1 v = true then some (pc', ls, r, sh, g) else none
  | _ => none
def a_if (c : ClassFile.Cond) (t f : Nat) (ls st : List AVal) (sh : List AShp) (g : AMem) : Option ACfg := match st with
  | .inl x :: r => match acndD c x 0 with
    | .isTrue _ => some (t, ls, r, sh, g)
    | .isFalse _ => some (f, ls, r, sh, g)
  | _ => none
def a_ic (c : ClassFile.Cond) (t f : Nat) (ls st : List AVal) (sh : List AShp) (g : AMem) : Option ACfg := match st with
  | .inl y :: .inl x :: r => match acndD c x y with
    | .isTrue _ => some (t, ls, r, sh, g)
    | .isFalse _ => some (f, ls, r, sh, g)
  | _ => none
def a_tsw (d lo hi : Int) (os : Array Int) (pc : Nat) (ls st : List AVal) (sh : List AShp) (g : AMem) : Option ACfg := match st with
  | .inl x :: r => if x < lo ∨ hi < x then (if 0 ≤ (pc : Int) + d then some (((pc : Int) + d).toNat, ls, r, sh, g) else none) else match os[(x - lo).toNat]? with
    | some o => if 0 ≤ (pc : Int) + o then some (((pc : Int) + o).toNat, ls, r, sh, g) else none
    | none => none
  | _ => none
def a_lsw (d : Int) (ps : Array (Int × Int)) (pc : Nat) (ls st : List AVal) (sh : List AShp) (g : AMem) : Option ACfg := match st with
  | .inl x :: r => if 0 ≤ (pc : Int) + Op.lookupswitch.offset ps.toList d x then some (((pc : Int) + Op.lookupswitch.offset ps.toList d x).toNat, ls, r, sh, g) else none
  | _ => none
def a_getf (x y pc' : Nat) (ls st : List AVal) (sh : List AShp) (g : AMem) : Option ACfg := match st with
  | .inr (.inr (.inl t)) :: r => if kin sh t = x then (match (jfld x)[y]? with
    | some 0 => some (pc', ls, vI (g t y) :: r, sh, g)
    | some 1 => some (pc', ls, vL (g t y) :: r, sh, g)
    | some 2 => if kin sh (g t y) = jrk x y then some (pc', ls, vR (g t y) :: r, sh, g) else none
    | some 3 => some (pc', ls, vR (fin_ sh t y) :: r, sh, g)
    | _ => none) else none
  | _ => none
def a_putf (x y pc' : Nat) (ls st : List AVal) (sh : List AShp) (g : AMem) : Option ACfg := match st with
  | v :: .inr (.inr (.inl t)) :: r => if kin sh t = x then (match (jfld x)[y]?, v with
    | some 0, .inl u => some (pc', ls, r, sh, up g t y u)
    | some 1, .inr (.inl u) => some (pc', ls, r, sh, up g t y u)
    | some 2, .inr (.inr (.inl u)) => some (pc', ls, r, sh, up g t y u)
    | some 3, .inr (.inr (.inl u)) => if y < (sh[t.toNat]?.getD (0, 0, [])).2.2.length then some (pc', ls, r, sh.set t.toNat ((sh[t.toNat]?.getD (0, 0, [])).1, (sh[t.toNat]?.getD (0, 0, [])).2.1, (sh[t.toNat]?.getD (0, 0, [])).2.2.set y u), g) else none
    | _, _ => none) else none
  | _ => none
def a_new (x pc' : Nat) (ls st : List AVal) (sh : List AShp) (g : AMem) : Option ACfg :=
  some (pc', ls, vR sh.length :: st, sh ++ [(x, (jfld x).length, List.replicate (jfld x).length 0)], zr g sh.length)
def a_newa (k pc' : Nat) (ls st : List AVal) (sh : List AShp) (g : AMem) : Option ACfg := match st with
  | .inl n :: r => if 0 ≤ n ∧ n ≤ 1000 then some (pc', ls, vR sh.length :: r, sh ++ [(k, n.toNat, [])], zr g sh.length) else none
  | _ => none
def a_newq (k pc' : Nat) (ls st : List AVal) (sh : List AShp) (g : AMem) : Option ACfg := match st with
  | .inl n :: r => if 0 ≤ n ∧ n ≤ 1000 then some (pc', ls, vR sh.length :: r, sh ++ [(k, n.toNat, List.replicate n.toNat 0)], zr g sh.length) else none
  | _ => none
def a_iald (pc' : Nat) (ls st : List AVal) (sh : List AShp) (g : AMem) : Option ACfg := match st with
  | .inl i :: .inr (.inr (.inl a)) :: r => if 0 ≤ i ∧ i < aln sh a then some (pc', ls, vI (g a i) :: r, sh, g) else none
  | _ => none
def a_iast (pc' : Nat) (ls st : List AVal) (sh : List AShp) (g : AMem) : Option ACfg := match st with
  | .inl x :: .inl i :: .inr (.inr (.inl a)) :: r => if 0 ≤ i ∧ i < aln sh a ∧ 2 ≤ a then some (pc', ls, r, sh, up g a i x) else none
  | _ => none
def a_bald (pc' : Nat) (ls st : List AVal) (sh : List AShp) (g : AMem) : Option ACfg := match st with
  | .inl i :: .inr (.inr (.inl a)) :: r => if 0 ≤ i ∧ i < bln sh a then some (pc', ls, vI (g a i) :: r, sh, g) else none
  | _ => none
def a_bast (pc' : Nat) (ls st : List AVal) (sh : List AShp) (g : AMem) : Option ACfg := match st with
  | .inl x :: .inl i :: .inr (.inr (.inl a)) :: r => if 0 ≤ i ∧ i < bln sh a ∧ (x = 0 ∨ x = 1) then some (pc', ls, r, sh, up g a i x) else none
  | _ => none
def a_aald (pc' : Nat) (ls st : List AVal) (sh : List AShp) (g : AMem) : Option ACfg := match st with
  | .inl i :: .inr (.inr (.inl a)) :: r => if 0 ≤ i ∧ i < rln sh a then some (pc', ls, vR (fin_ sh a i.toNat) :: r, sh, g) else none
  | _ => none
def a_aast (pc' : Nat) (ls st : List AVal) (sh : List AShp) (g : AMem) : Option ACfg := match st with
  | .inr (.inr (.inl v)) :: .inl i :: .inr (.inr (.inl a)) :: r => if 0 ≤ i ∧ i < rln sh a ∧ i.toNat < (sh[a.toNat]?.getD (0, 0, [])).2.2.length ∧ ((kin sh a = 22 ∧ kin sh v = 0) ∨ (kin sh a = 23 ∧ kin sh v = 2)) then
      some (pc', ls, r, sh.set a.toNat ((sh[a.toNat]?.getD (0, 0, [])).1, (sh[a.toNat]?.getD (0, 0, [])).2.1, (sh[a.toNat]?.getD (0, 0, [])).2.2.set i.toNat v), g) else none
  | _ => none
def a_alen (pc' : Nat) (ls st : List AVal) (sh : List AShp) (g : AMem) : Option ACfg := match st with
  | .inr (.inr (.inl a)) :: r => if (kin sh a = 20 ∨ a = 1) ∧ aln sh a ≤ 2048 then some (pc', ls, vI (aln sh a) :: r, sh, g) else none
  | _ => none
def a_obj (pc' : Nat) (ls st : List AVal) (sh : List AShp) (g : AMem) : Option ACfg := match st with
  | .inr (.inr (.inl a)) :: r => if 2 ≤ a ∧ r.length = 0 then some (pc', ls, r, sh, g) else none
  | _ => none
def a_acpy (pc' : Nat) (ls st : List AVal) (sh : List AShp) (g : AMem) : Option ACfg := match st with
  | .inl n :: .inl dp :: .inr (.inr (.inl d)) :: .inl sp :: .inr (.inr (.inl s)) :: r => if 0 ≤ sp ∧ 0 ≤ dp ∧ 0 ≤ n ∧ sp + n ≤ aln sh s ∧ dp + n ≤ aln sh d ∧ kin sh s = 20 ∧ kin sh d = 20 ∧ r.length = 0 then some (pc', ls, r, sh, cpy g s sp d dp n) else none
  | _ => none
def a_mm (mx : Bool) (pc' : Nat) (ls st : List AVal) (sh : List AShp) (g : AMem) : Option ACfg := match st with
  | .inl y :: .inl x :: r => if r.length = 0 then some (pc', ls, vI (if mx = true then (if x < y then y else x) else (if y < x then y else x)) :: r, sh, g) else none
  | _ => none
def stp (ins : Instr) (x y : Nat) (z : Int) (pc : Nat) (ls st : List AVal) (sh : List AShp) (g : AMem) : Option ACfg := match ins with
  | .iconst n => some (pc + 1, ls, vI n :: st, sh, g)
  | .bipush n => some (pc + 2, ls, vI n :: st, sh, g)
  | .sipush n => some (pc + 3, ls, vI n :: st, sh, g)
  | .ldc _ => some (pc + 2, ls, vI z :: st, sh, g)
  | .ldc2_w _ => some (pc + 3, ls, vL z :: st, sh, g)
  | .lconst n => some (pc + 1, ls, vL (n : Nat) :: st, sh, g)
  | .iload_n n => a_ldI n (pc + 1) ls st sh g
  | .iload n => a_ldI n (pc + 2) ls st sh g
  | .lload_n n => a_ldL n (pc + 1) ls st sh g
  | .lload n => a_ldL n (pc + 2) ls st sh g
  | .aload_n n => a_ldR n (pc + 1) ls st sh g
  | .aload n => a_ldR n (pc + 2) ls st sh g
  | .istore_n n => a_stI n (pc + 1) ls st sh g
  | .istore n => a_stI n (pc + 2) ls st sh g
  | .lstore_n n => a_stL n (pc + 1) ls st sh g
  | .lstore n => a_stL n (pc + 2) ls st sh g
  | .astore_n n => a_stR n (pc + 1) ls st sh g
  | .astore n => a_stR n (pc + 2) ls st sh g
  | .iinc i n => a_inc i n (pc + 3) ls st sh g
  | .iadd => a_bi false (fun x y => iw (x + y)) (pc + 1) ls st sh g
  | .isub => a_bi false (fun x y => iw (x - y)) (pc + 1) ls st sh g
  | .imul => a_bi false (fun x y => iw (x * y)) (pc + 1) ls st sh g
  | .idiv => a_bi true (fun x y => iw (x.tdiv y)) (pc + 1) ls st sh g
  | .irem => a_bi true (fun x y => iw (x - x.tdiv y * y)) (pc + 1) ls st sh g
  | .iand => a_bi false (fun x y => (Int32.ofInt x &&& Int32.ofInt y).toInt) (pc + 1) ls st sh g
  | .ishr => a_bi false (fun x y => (Int32.ofInt x >>> (Int32.ofInt y &&& 31)).toInt) (pc + 1) ls st sh g
  | .ladd => a_bl false (fun x y => lw (x + y)) (pc + 1) ls st sh g
  | .lmul => a_bl false (fun x y => lw (x * y)) (pc + 1) ls st sh g
  | .ldiv => a_bl true (fun x y => lw (x.tdiv y)) (pc + 1) ls st sh g
  | .lrem => a_bl true (fun x y => lw (x - x.tdiv y * y)) (pc + 1) ls st sh g
  | .lcmp => a_lcmp (pc + 1) ls st sh g
  | .i2l => a_i2l (pc + 1) ls st sh g
  | .l2i => a_l2i (pc + 1) ls st sh g
  | .dup => a_dup (pc + 1) ls st sh g
  | .dup2 => a_dup2 (pc + 1) ls st sh g
  | .pop => a_pop (pc + 1) ls st sh g
  | .ifCond c o => a_if c ((pc : Int) + o).toNat (pc + 3) ls st sh g
  | .if_icmp c o => a_ic c ((pc : Int) + o).toNat (pc + 3) ls st sh g
  | .goto o => some (((pc : Int) + o).toNat, ls, st, sh, g)
  | .tableswitch d lo hi os => a_tsw d lo hi os pc ls st sh g
  | .lookupswitch d ps => a_lsw d ps pc ls st sh g
  | .getfield _ => a_getf x y (pc + 3) ls st sh g
  | .putfield _ => a_putf x y (pc + 3) ls st sh g
  | .new _ => a_new x (pc + 3) ls st sh g
  | .newarray t => match t with
    | .int => a_newa 20 (pc + 2) ls st sh g
    | .boolean => a_newa 21 (pc + 2) ls st sh g
    | _ => none
  | .anewarray _ => if x = 22 ∨ x = 23 then a_newq x (pc + 3) ls st sh g else none
  | .iaload => a_iald (pc + 1) ls st sh g
  | .iastore => a_iast (pc + 1) ls st sh g
  | .baload => a_bald (pc + 1) ls st sh g
  | .bastore => a_bast (pc + 1) ls st sh g
  | .aaload => a_aald (pc + 1) ls st sh g
  | .aastore => a_aast (pc + 1) ls st sh g
  | .arraylength => a_alen (pc + 1) ls st sh g
  | .invokespecial _ => a_obj (pc + 3) ls st sh g
  | .invokestatic _ => if x = 1001 then a_acpy (pc + 3) ls st sh g else a_mm (x == 1002) (pc + 3) ls st sh g
  | _ => none
/-- 0 a row, 1 a call, 2 an end -/
def akd (ins : Instr) (x : Nat) : Nat := match ins with
  | .invokevirtual _ => 1
  | .invokestatic _ => if 1001 ≤ x then 0 else 1
  | .invokespecial _ => if x = 1000 then 0 else 1
  | .ireturn => 2
  | .lreturn => 2
  | .areturn => 2
  | .return_ => 2
  | _ => 0
/-- of a method: kind of its objects (99 none), how many locals, what it answers (0 nothing, 1 int, 2 boolean, 3 long, 4 a reference), how many it takes with its object, frames, words, how it is called (0 with an object, 1 without, 2 as a maker) -/
abbrev AMt : Type := Nat × (Nat × (Nat × (Nat × (Nat × (Nat × Nat)))))
def look : List ACe → Nat → Option (Instr × (Nat × (Nat × (Nat × Int))))
  | [], _ => none
  | e :: r, pc => match Nat.beq e.1 pc with
    | true => some e.2
    | false => look r pc
def awg (l : List AVal) : Nat := (l.map (fun v => if ac1 v = true then 1 else 2)).sum
def aent (l : List AVal) : List AVal := l.flatMap (fun v => if ac1 v = true then [v] else [v, vU])
def a_end (ins : Instr) (rk : Nat) (st : List AVal) : Option (List AVal) := match ins, rk, st with
  | .ireturn, 1, [.inl v] => some [vI v]
  | .ireturn, 2, [.inl v] => if v = 0 ∨ v = 1 then some [vI v] else none
  | .lreturn, 3, [.inr (.inl v)] => some [vL v]
  | .areturn, 4, [.inr (.inr (.inl v))] => if 1 ≤ v then some [vR v] else none
  | .return_, 0, [] => some []
  | _, _, _ => none
def a_rcv (mt : AMt) (sh : List AShp) (l : List AVal) : Bool := match mt.2.2.2.2.2.2, l with
  | 1, _ => true
  | 2, .inr (.inr (.inl t)) :: _ => decide (2 ≤ t)
  | 0, .inr (.inr (.inl t)) :: _ => decide (kin sh t = mt.1)
  | _, _ => false
