/-! the pure machine: values (an int, a long, a cell of a group, a String constant), the world (group, cell, place), locals, stack; one instruction; a run; its limit -/
abbrev ts_V : Type := Int32 ⊕ Int64 ⊕ (Nat × Nat) ⊕ Nat
abbrev ts_S : Type := Nat → Nat → Nat → Int32
abbrev ts_L : Type := List (Option ts_V)
abbrev ts_C : Type := Nat × ts_L × List ts_V × ts_S
abbrev ts_A : Type := Option ts_V × ts_S
abbrev ts_E : Type := Nat → List ts_V → ts_S → Option ts_A
abbrev ts_I : Type := Instr × Nat × Nat × List (Nat × Nat)
abbrev ts_K : Type := ts_C → Option ts_A
/-- a group's kind: 0 Quarter, 1 Sheets, 2 Tape, 3 TollSills, 4 the model -/
def ts_kd (g : Nat) : Nat := match g with
  | 0 => 3
  | 1 => 0
  | 2 => 0
  | 3 => 0
  | 4 => 2
  | 5 => 1
  | 6 => 4
  | _ => 9
/-- a kind's fields: a number, or a cell of a group further on -/
def ts_fl (k : Nat) : List (Option (Nat × Nat)) := match k with
  | 0 => [some (0, 1), none, none, none, none, some (0, 2), some (0, 3), some (0, 4), some (0, 5), some (0, 6), none, some (0, 7), some (0, 8), some (0, 9), some (0, 10)]
  | 1 => [some (0, 1), some (0, 2), some (0, 3)]
  | 2 => [some (0, 1), none, none, none, none, none]
  | 3 => [some (1, 0), some (2, 0), some (3, 0), none, some (4, 0), some (5, 0), some (0, 1)]
  | 4 => [some (0, 1), some (0, 2), some (0, 3), none, some (0, 4), some (0, 5), none, none, none, none, none, none, some (0, 6), some (0, 7), none, none, none, some (0, 8), some (0, 9), some (0, 10), some (0, 11)]
  | _ => []
/-- a kind's rows of ints, by cell: how long -/
def ts_al (k : Nat) : List (Option Nat) := match k with
  | 0 => [none, some 6, some 8, some 8, some 8, some 8, some 40, some 6, some 6, some 6, some 10]
  | 1 => [none, some 4, some 4, some 160]
  | 2 => [none, some 120]
  | 3 => [none, some 7]
  | 4 => [none, some 111, some 111, some 111, some 8, some 120, none, some 960, some 4, some 4, some 160, some 40]
  | _ => []
def ts_ck (i : Int32) (n : Nat) (x : Option ts_A) : Option ts_A := if i < 0 ∨ n ≤ i.toNatClampNeg then none else x
def ts_up (σ : ts_S) (g c j : Nat) (x : Int32) : ts_S := va_up σ g (va_up (σ g) c (upd (σ g c) j x))
def ts_o1 (st : List ts_V) (f : Int32 → List ts_V → Option ts_A) : Option ts_A := match st with
  | .inl x :: r => f x r
  | _ => none
def ts_o2 (st : List ts_V) (f : Int32 → Int32 → List ts_V → Option ts_A) : Option ts_A := match st with
  | .inl y :: .inl x :: r => f x y r
  | _ => none
def ts_l1 (st : List ts_V) (f : Int64 → List ts_V → Option ts_A) : Option ts_A := match st with
  | .inr (.inl x) :: r => f x r
  | _ => none
def ts_l2 (st : List ts_V) (f : Int64 → Int64 → List ts_V → Option ts_A) : Option ts_A := match st with
  | .inr (.inl y) :: .inr (.inl x) :: r => f x y r
  | _ => none
/-- a cell on the stack -/
def ts_r1 (st : List ts_V) (f : Nat → Nat → List ts_V → Option ts_A) : Option ts_A := match st with
  | .inr (.inr (.inl (g, c))) :: r => f g c r
  | _ => none
/-- an index, and a cell under it -/
def ts_r2 (st : List ts_V) (f : Int32 → Nat → Nat → List ts_V → Option ts_A) : Option ts_A := match st with
  | .inl i :: .inr (.inr (.inl (g, c))) :: r => f i g c r
  | _ => none
/-- a value, an index, and a cell under it -/
def ts_r3 (st : List ts_V) (f : Int32 → Int32 → Nat → Nat → List ts_V → Option ts_A) : Option ts_A := match st with
  | .inl x :: .inl i :: .inr (.inr (.inl (g, c))) :: r => f x i g c r
  | _ => none
def ts_nl (lo : ts_L) (i : Nat) : Bool := match i with
  | 0 => true
  | j + 1 => match lo[j]? with
    | some (some (.inr (.inl _))) => false
    | _ => true
def ts_sto (lo : ts_L) (i : Nat) (v : ts_V) (f : ts_L → Option ts_A) : Option ts_A := cond (Nat.blt i lo.length && ts_nl lo i) (f (lo.set i (some v))) none
def ts_st2 (lo : ts_L) (i : Nat) (v : ts_V) (f : ts_L → Option ts_A) : Option ts_A := cond (Nat.blt (i + 1) lo.length && ts_nl lo i) (f ((lo.set i (some v)).set (i + 1) none)) none
def ts_li (lo : ts_L) (i : Nat) (f : Int32 → Option ts_A) : Option ts_A := match lo[i]? with
  | some (some (.inl x)) => f x
  | _ => none
def ts_ll (lo : ts_L) (i : Nat) (f : Int64 → Option ts_A) : Option ts_A := match lo[i]? with
  | some (some (.inr (.inl x))) => f x
  | _ => none
def ts_lr (lo : ts_L) (i : Nat) (f : (Nat × Nat) ⊕ Nat → Option ts_A) : Option ts_A := match lo[i]? with
  | some (some (.inr (.inr x))) => f x
  | _ => none
def ts_sw (x : Int32) (d : Nat) (f : Nat → Option ts_A) : List (Nat × Nat) → Option ts_A
  | [] => f d
  | (v, t) :: r => if x = Int32.ofNat v then f t else ts_sw x d f r
/-- how many words a value takes -/
def ts_cat (v : ts_V) : Nat := match v with
  | .inr (.inl _) => 2
  | _ => 1
def ts_sum : List ts_V → Nat
  | [] => 0
  | v :: r => ts_cat v + ts_sum r
def ts_an (k c : Nat) (f : Nat → Option ts_A) : Option ts_A := match (ts_al k)[c]? with
  | some (some n) => f n
  | _ => none
def ts_gf (σ : ts_S) (g b : Nat) (o : Option (Option (Nat × Nat))) (f : ts_V → Option ts_A) : Option ts_A := match o with
  | some none => f (.inl (σ g 0 b))
  | some (some (dg, c)) => f (.inr (.inr (.inl (g + dg, c))))
  | none => none
def ts_pf (o : Option (Option (Nat × Nat))) (x : Option ts_A) : Option ts_A := match o with
  | some none => x
  | _ => none
/-- the receiver's kind: 0 to 4 an own class, 8 a String, 9 none asked -/
def ts_rc (t : Nat) (as : List ts_V) : Bool := match as with
  | .inr (.inr (.inl (g, c))) :: _ => (c == 0 && (ts_kd g == t)) || t == 9
  | .inr (.inr (.inr j)) :: _ => (t == 8 && Nat.blt j 13) || t == 9
  | _ => t == 9
def ts_ac (st : List ts_V) (σ : ts_S) (f : List ts_V → ts_S → Option ts_A) : Option ts_A := match st with
  | .inl n :: .inl dp :: .inr (.inr (.inl (g1, c1))) :: .inl sp :: .inr (.inr (.inl (g0, c0))) :: r =>
    ts_an (ts_kd g0) c0 fun n0 => ts_an (ts_kd g1) c1 fun n1 =>
      if sp < 0 ∨ dp < 0 ∨ n < 0 ∨ n0 < sp.toNatClampNeg + n.toNatClampNeg ∨ n1 < dp.toNatClampNeg + n.toNatClampNeg then none
      else f r (va_up σ g1 (va_up (σ g1) c1 (va_cpy (σ g0 c0) (σ g1 c1) sp.toNatClampNeg dp.toNatClampNeg n.toNatClampNeg)))
  | _ => none
def ts_psh (r : Option ts_V) (st : List ts_V) : List ts_V := match r with
  | some v => v :: st
  | none => st
/-- locals that are forgotten -/
def ts_fg (lo : ts_L) : List (Nat × Nat) → ts_L
  | [] => lo
  | (j, _) :: r => ts_fg (lo.set j none) r
/-- names for what is used more than once -/
def ts_nw (s : ts_S) (f : ts_S → Option ts_A) : Option ts_A := f s
def ts_ni (x : Int32) (f : Int32 → Option ts_A) : Option ts_A := f x
def ts_nj (x : Int64) (f : Int64 → Option ts_A) : Option ts_A := f x
def ts_cpy (σ : ts_S) (n0 n1 g0 c0 : Nat) (sp : Int32) (g1 c1 : Nat) (dp n : Int32) (f : ts_S → Option ts_A) : Option ts_A :=
  if sp < 0 ∨ dp < 0 ∨ n < 0 ∨ n0 < sp.toNatClampNeg + n.toNatClampNeg ∨ n1 < dp.toNatClampNeg + n.toNatClampNeg then none
  else f (va_up σ g1 (va_up (σ g1) c1 (va_cpy (σ g0 c0) (σ g1 c1) sp.toNatClampNeg dp.toNatClampNeg n.toNatClampNeg)))
/-- what a callee answered: an int, nothing, a long, a String constant -/
def ts_bi (o : Option ts_A) (f : Int32 → ts_S → Option ts_A) : Option ts_A := match o with
  | some (some (.inl x), σ) => f x σ
  | _ => none
def ts_bv (o : Option ts_A) (f : ts_S → Option ts_A) : Option ts_A := match o with
  | some (none, σ) => f σ
  | _ => none
def ts_bl (o : Option ts_A) (f : Int64 → ts_S → Option ts_A) : Option ts_A := match o with
  | some (some (.inr (.inl x)), σ) => f x σ
  | _ => none
def ts_bs (o : Option ts_A) (f : Nat → ts_S → Option ts_A) : Option ts_A := match o with
  | some (some (.inr (.inr (.inr j))), σ) => f j σ
  | _ => none
def ts_bd (u : Nat) (o : Option ts_A) (rest : List ts_V) (f : List ts_V → ts_S → Option ts_A) : Option ts_A := match u with
  | 0 => ts_bi o fun x σ => f (.inl x :: rest) σ
  | 1 => ts_bv o fun σ => f rest σ
  | 2 => ts_bl o fun x σ => f (.inr (.inl x) :: rest) σ
  | _ => ts_bs o fun j σ => f (.inr (.inr (.inr j)) :: rest) σ
/-- one instruction: i.2.1, i.2.2.1, i.2.2.2 are what the tables know of it -/
def ts_st (E : ts_E) (i : ts_I) (pc : Nat) (lo : ts_L) (st : List ts_V) (σ : ts_S) (k : ts_K) : Option ts_A := match i.1 with
  | .iconst _ => k (pc + 1, lo, .inl (Int32.ofNat i.2.1) :: st, σ)
  | .bipush _ => k (pc + 2, lo, .inl (Int32.ofNat i.2.1) :: st, σ)
  | .sipush _ => k (pc + 3, lo, .inl (Int32.ofNat i.2.1) :: st, σ)
  | .ldc _ => cond (i.2.2.1 == 0) (k (pc + 2, lo, .inl (Int32.ofNat i.2.1) :: st, σ)) (k (pc + 2, lo, .inr (.inr (.inr i.2.1)) :: st, σ))
  | .ldc_w _ => cond (i.2.2.1 == 0) (k (pc + 3, lo, .inl (Int32.ofNat i.2.1) :: st, σ)) (k (pc + 3, lo, .inr (.inr (.inr i.2.1)) :: st, σ))
  | .lconst _ => k (pc + 1, lo, .inr (.inl (Int64.ofNat i.2.1)) :: st, σ)
  | .iload_n _ => ts_li lo i.2.1 fun x => k (pc + 1, lo, .inl x :: st, σ)
  | .iload _ => ts_li lo i.2.1 fun x => k (pc + 2, lo, .inl x :: st, σ)
  | .lload_n _ => ts_ll lo i.2.1 fun x => k (pc + 1, lo, .inr (.inl x) :: st, σ)
  | .lload _ => ts_ll lo i.2.1 fun x => k (pc + 2, lo, .inr (.inl x) :: st, σ)
  | .aload_n _ => ts_lr lo i.2.1 fun x => k (pc + 1, lo, .inr (.inr x) :: st, σ)
  | .aload _ => ts_lr lo i.2.1 fun x => k (pc + 2, lo, .inr (.inr x) :: st, σ)
  | .istore_n _ => ts_o1 st fun x r => ts_sto lo i.2.1 (.inl x) fun lo' => k (pc + 1, lo', r, σ)
  | .istore _ => ts_o1 st fun x r => ts_sto lo i.2.1 (.inl x) fun lo' => k (pc + 2, lo', r, σ)
  | .lstore_n _ => ts_l1 st fun x r => ts_st2 lo i.2.1 (.inr (.inl x)) fun lo' => k (pc + 1, lo', r, σ)
  | .lstore _ => ts_l1 st fun x r => ts_st2 lo i.2.1 (.inr (.inl x)) fun lo' => k (pc + 2, lo', r, σ)
  | .iinc _ _ => ts_li lo i.2.1 fun x => ts_sto lo i.2.1 (.inl (x + Int32.ofNat i.2.2.1)) fun lo' => k (pc + 3, lo', st, σ)
  | .iadd => ts_o2 st fun x y r => k (pc + 1, lo, .inl (x + y) :: r, σ)
  | .isub => ts_o2 st fun x y r => k (pc + 1, lo, .inl (x - y) :: r, σ)
  | .imul => ts_o2 st fun x y r => k (pc + 1, lo, .inl (x * y) :: r, σ)
  | .iand => ts_o2 st fun x y r => k (pc + 1, lo, .inl (x &&& y) :: r, σ)
  | .ior => ts_o2 st fun x y r => k (pc + 1, lo, .inl (x ||| y) :: r, σ)
  | .ixor => ts_o2 st fun x y r => k (pc + 1, lo, .inl (x ^^^ y) :: r, σ)
  | .ishl => ts_o2 st fun x y r => k (pc + 1, lo, .inl (x <<< (y &&& 31)) :: r, σ)
  | .ishr => ts_o2 st fun x y r => k (pc + 1, lo, .inl (x >>> (y &&& 31)) :: r, σ)
  | .iushr => ts_o2 st fun x y r => k (pc + 1, lo, .inl ((x.toUInt32 >>> (y.toUInt32 &&& Int32.toUInt32 31)).toInt32) :: r, σ)
  | .idiv => ts_o2 st fun x y r => if y = 0 then none else k (pc + 1, lo, .inl (x / y) :: r, σ)
  | .irem => ts_o2 st fun x y r => if y = 0 then none else k (pc + 1, lo, .inl (x - x / y * y) :: r, σ)
  | .i2l => ts_o1 st fun x r => k (pc + 1, lo, .inr (.inl x.toInt64) :: r, σ)
  | .i2b => ts_o1 st fun x r => k (pc + 1, lo, .inl x.toInt8.toInt32 :: r, σ)
  | .i2s => ts_o1 st fun x r => k (pc + 1, lo, .inl x.toInt16.toInt32 :: r, σ)
  | .ladd => ts_l2 st fun x y r => k (pc + 1, lo, .inr (.inl (x + y)) :: r, σ)
  | .lmul => ts_l2 st fun x y r => k (pc + 1, lo, .inr (.inl (x * y)) :: r, σ)
  | .lcmp => ts_l2 st fun x y r => k (pc + 1, lo, .inl (lg_cmp x y) :: r, σ)
  | .dup => match st with
    | v :: r => cond (ts_cat v == 1) (k (pc + 1, lo, v :: v :: r, σ)) none
    | _ => none
  | .dup2 => match st with
    | v :: w :: r => cond (ts_cat v == 1 && ts_cat w == 1) (k (pc + 1, lo, v :: w :: v :: w :: r, σ)) none
    | _ => none
  | .pop => match st with
    | v :: r => cond (ts_cat v == 1) (k (pc + 1, lo, r, σ)) none
    | _ => none
  | .ifCond .eq _ => ts_o1 st fun x r => if x = 0 then k (i.2.1, lo, r, σ) else k (pc + 3, lo, r, σ)
  | .ifCond .ne _ => ts_o1 st fun x r => if x = 0 then k (pc + 3, lo, r, σ) else k (i.2.1, lo, r, σ)
  | .ifCond .lt _ => ts_o1 st fun x r => if x < 0 then k (i.2.1, lo, r, σ) else k (pc + 3, lo, r, σ)
  | .ifCond .ge _ => ts_o1 st fun x r => if 0 ≤ x then k (i.2.1, lo, r, σ) else k (pc + 3, lo, r, σ)
  | .ifCond .gt _ => ts_o1 st fun x r => if 0 < x then k (i.2.1, lo, r, σ) else k (pc + 3, lo, r, σ)
  | .ifCond .le _ => ts_o1 st fun x r => if x ≤ 0 then k (i.2.1, lo, r, σ) else k (pc + 3, lo, r, σ)
  | .if_icmp .eq _ => ts_o2 st fun x y r => if x = y then k (i.2.1, lo, r, σ) else k (pc + 3, lo, r, σ)
  | .if_icmp .ne _ => ts_o2 st fun x y r => if x = y then k (pc + 3, lo, r, σ) else k (i.2.1, lo, r, σ)
  | .if_icmp .lt _ => ts_o2 st fun x y r => if x < y then k (i.2.1, lo, r, σ) else k (pc + 3, lo, r, σ)
  | .if_icmp .ge _ => ts_o2 st fun x y r => if y ≤ x then k (i.2.1, lo, r, σ) else k (pc + 3, lo, r, σ)
  | .if_icmp .gt _ => ts_o2 st fun x y r => if y < x then k (i.2.1, lo, r, σ) else k (pc + 3, lo, r, σ)
  | .if_icmp .le _ => ts_o2 st fun x y r => if x ≤ y then k (i.2.1, lo, r, σ) else k (pc + 3, lo, r, σ)
  | .goto _ => k (i.2.1, ts_fg lo i.2.2.2, st, σ)
  | .tableswitch _ _ _ _ => ts_o1 st fun x r => ts_sw x i.2.1 (fun t => k (t, lo, r, σ)) i.2.2.2
  | .lookupswitch _ _ => ts_o1 st fun x r => ts_sw x i.2.1 (fun t => k (t, lo, r, σ)) i.2.2.2
  | .getfield _ => ts_r1 st fun g c r => cond (c == 0 && ts_kd g == i.2.1) (ts_gf σ g i.2.2.1 ((ts_fl i.2.1)[i.2.2.1]?) fun v => k (pc + 3, lo, v :: r, σ)) none
  | .putfield _ => match st with
    | .inl x :: .inr (.inr (.inl (g, c))) :: r => cond (c == 0 && ts_kd g == i.2.1) (ts_pf ((ts_fl i.2.1)[i.2.2.1]?) (match i.2.2.2 with
      | [(_, 0)] => k (pc + 3, lo, r, ts_up σ g 0 i.2.2.1 x)
      | _ => if x = 0 ∨ x = 1 then k (pc + 3, lo, r, ts_up σ g 0 i.2.2.1 x) else none)) none
    | _ => none
  | .iaload => ts_r2 st fun j g c r => ts_an (ts_kd g) c fun n => ts_ck j n (k (pc + 1, lo, .inl (σ g c j.toNatClampNeg) :: r, σ))
  | .iastore => ts_r3 st fun x j g c r => ts_an (ts_kd g) c fun n => ts_ck j n (k (pc + 1, lo, r, ts_up σ g c j.toNatClampNeg x))
  | .aaload => ts_r2 st fun j g c r => cond (g == 6 && c == 6) (ts_ck j 7 (k (pc + 1, lo, .inr (.inr (.inr j.toNatClampNeg)) :: r, σ))) none
  | .arraylength => ts_r1 st fun g c r => match (ts_al (ts_kd g))[c]? with
    | some (some n) => k (pc + 1, lo, .inl (Int32.ofNat n) :: r, σ)
    | _ => cond (g == 6 && c == 6) (k (pc + 1, lo, .inl 7 :: r, σ)) none
  | .invokevirtual _ => match i.2.2.2 with
    | [(_, t), (u, _)] => cond (Nat.ble i.2.2.1 st.length && (Nat.ble (ts_sum (st.drop i.2.2.1)) 8 && ts_rc t (st.take i.2.2.1).reverse)) (ts_bd u (E i.2.1 (st.take i.2.2.1).reverse σ) (st.drop i.2.2.1) fun r σ' => k (pc + 3, lo, r, σ')) none
    | _ => none
  | .invokestatic _ => match i.2.2.2 with
    | [(_, t), (u, _)] => cond (t == 7) (ts_ac st σ fun r σ' => cond (Nat.ble (ts_sum r) 8) (k (pc + 3, lo, r, σ')) none)
      (cond (Nat.ble i.2.2.1 st.length && Nat.ble (ts_sum (st.drop i.2.2.1)) 8) (ts_bd u (E i.2.1 (st.take i.2.2.1).reverse σ) (st.drop i.2.2.1) fun r σ' => k (pc + 3, lo, r, σ')) none)
    | _ => none
  | .ireturn => match st with
    | [.inl x] => cond (i.2.1 == 0) (some (some (.inl x), σ)) (if x = 0 ∨ x = 1 then some (some (.inl x), σ) else none)
    | _ => none
  | .lreturn => match st with
    | [.inr (.inl x)] => some (some (.inr (.inl x)), σ)
    | _ => none
  | .areturn => match st with
    | [.inr (.inr x)] => some (some (.inr (.inr x)), σ)
    | _ => none
  | .return_ => match st with
    | [] => some (none, σ)
    | _ => none
  | _ => none
def ts_stp (E : ts_E) (tb : List (Option ts_I)) (c : ts_C) (k : ts_K) : Option ts_A := match tb[c.1]? with
  | some (some i) => ts_st E i c.1 c.2.1 c.2.2.1 c.2.2.2 k
  | _ => none
def ts_run (E : ts_E) (tb : List (Option ts_I)) : Nat → ts_K
  | 0, _ => none
  | n + 1, c => ts_stp E tb c (ts_run E tb n)
