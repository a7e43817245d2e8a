/-! A RECKONER: the bytecode of the tables as a function over a memory of numbered cells (own work). An int, a long, a reference (the number of a cell) or null; a cell is a row of ints, a row of references (its kind, its length), or an object (the number of its class, its fields). -/
abbrev rv : Type := Int32 ⊕ Int64 ⊕ Option Nat
abbrev rEnt : Type := (Nat × (Nat → Int32)) ⊕ (Nat × Nat × (Nat → Option Nat)) ⊕ (Nat × List rv)
/-- a method: its class's number, its name, its code, its locals, what it returns, how many it takes (this, too), whether it is static -/
abbrev rMeth : Type := Nat × MethodName × ByteArray × Nat × Option FieldType × Nat × Bool
/-- a field at (class, place of the pool): its class, its slot, its kind (0 int, 1 boolean, 2 reference), final, a nest mate's -/
abbrev rFld : Type := Nat × Nat × Nat × Bool × Bool
/-- the tables: methods; fields; calls (0 Object's constructor, 1 a constructor, 2 virtual, 3 static, 4 static of a nest mate, 5 arraycopy; the method; 6 the class of new State[], 7 of new int[][]; 8 Math.max, 9 Math.min); classes that are made (the class, how many slots); ints, longs of the pool -/
abbrev rTab : Type := (Nat → Option rMeth) × (Nat → Nat → Option rFld) × (Nat → Nat → Option (Nat × Nat)) × (Nat → Nat → Option (Nat × List rv)) × (Nat → Nat → Option Int32) × (Nat → Nat → Option Int64)
abbrev rOut : Type := (Nat × List (Nat × rv) × List rv × List rEnt × Nat × Nat) ⊕ (Option rv) ⊕ (Nat × List rv × List rv)
abbrev rRes : Type := Option rv × List rEnt × Nat × Nat
def rNx (pc : Nat) (L : List (Nat × rv)) (S : List rv) (M : List rEnt) : Option rOut := some (.inl (pc, L, S, M, 0, 0))
def rCat : rv → Nat
  | .inr (.inl _) => 2
  | _ => 1
def rGet (L : List (Nat × rv)) (i : Nat) : Option rv := (L.find? (fun q => q.1 == i)).map (fun q => q.2)
def rSet1 (L : List (Nat × rv)) (i : Nat) (v : rv) : List (Nat × rv) := (i, v) :: L.filter (fun q => !(q.1 == i) && !(q.1 + 1 == i && rCat q.2 == 2))
def rSet2 (L : List (Nat × rv)) (i : Nat) (v : rv) : List (Nat × rv) := (i, v) :: L.filter (fun q => !(q.1 == i) && (!(q.1 == i + 1) && !(q.1 + 1 == i && rCat q.2 == 2)))
def rTg (pc : Nat) (off : Int) : Option Nat := if 0 ≤ (pc : Int) + off then some ((pc : Int) + off).toNat else none
def rTest : Jvm.ClassFile.Cond → Int32 → Int32 → Bool
  | .eq, x, y => decide (x = y)
  | .ne, x, y => decide (¬ x = y)
  | .lt, x, y => decide (x < y)
  | .ge, x, y => decide (y ≤ x)
  | .gt, x, y => decide (y < x)
  | .le, x, y => decide (x ≤ y)
def rIn (i : Int32) (n : Nat) : Bool := !(decide (i < 0)) && decide (i.toNatClampNeg < n)
def rSum (S : List rv) : Nat := (S.map rCat).sum
def rArgs : Nat → List rv → List (Nat × rv)
  | _, [] => []
  | i, v :: vs => (i, v) :: rArgs (if rCat v = 2 then i + 2 else i + 1) vs
def rWide : List rv → Nat
  | [] => 0
  | v :: vs => (if rCat v = 2 then 2 else 1) + rWide vs
def rZeros (N K : Nat) : List rEnt := List.replicate N (.inl (K, fun _ => 0))
/-- a call's arguments, off the stack: the last one lies on top -/
def rTake (n : Nat) (S : List rv) : Option (List rv × List rv) := if n ≤ S.length then some ((S.take n).reverse, S.drop n) else none
def rJump (pc : Nat) (off : Int) (L : List (Nat × rv)) (S : List rv) (M : List rEnt) : Option rOut := match rTg pc off with
  | some t => rNx t L S M
  | none => none
def rIf (b : Bool) (pc : Nat) (off : Int) (L : List (Nat × rv)) (S : List rv) (M : List rEnt) : Option rOut := match rTg pc off with
  | some t => rNx (if b then t else pc + 3) L S M
  | none => none
def rBool (x : Int32) : Bool := decide (x = 0) || decide (x = 1)
def rPut (M : List rEnt) (k : Nat) (ci j : Nat) (v : rv) : Option (List rEnt) := match M[k]? with
  | some (.inr (.inr (c2, fs))) => if c2 = ci ∧ j < fs.length then some (M.set k (.inr (.inr (c2, fs.set j v)))) else none
  | _ => none
def rFits (t : Nat) (v : rv) : Bool := match t, v with
  | 0, .inl _ => true
  | 1, .inl x => rBool x
  | 2, .inr (.inr _) => true
  | _, _ => false
/-- what is called: the method, its arguments, what lies below -/
def rCallOf (G : rTab) (y : Nat) (S : List rv) : Option rOut := match G.1 y with
  | some (_, _, _, _, _, n, _) => match rTake n S with
    | some (as, r) => if rSum r ≤ 8 then some (.inr (.inr (y, as, r))) else none
    | none => none
  | none => none
/-- two rows of ints: as many from a place of the one to a place of the other -/
def rCopy (M : List rEnt) (k0 k1 : Nat) (sp dp n : Int32) : Option (List rEnt) := match M[k0]?, M[k1]? with
  | some (.inl (n0, f)), some (.inl (n1, g)) => if ¬ sp < 0 ∧ ¬ dp < 0 ∧ ¬ n < 0 ∧ sp.toNatClampNeg + n.toNatClampNeg ≤ n0 ∧ dp.toNatClampNeg + n.toNatClampNeg ≤ n1 then some (M.set k1 (.inl (n1, va_cpy f g sp.toNatClampNeg dp.toNatClampNeg n.toNatClampNeg))) else none
  | _, _ => none
def rRet (ret : Option FieldType) (v : rv) : Bool := match ret, v with
  | some .int, .inl _ => true
  | some .boolean, .inl x => rBool x
  | some .long, .inr (.inl _) => true
  | some (.object _), .inr (.inr _) => true
  | some (.array _), .inr (.inr _) => true
  | _, _ => false
def rLoadI (L : List (Nat × rv)) (i pc : Nat) (S : List rv) (M : List rEnt) : Option rOut := match rGet L i with
  | some (.inl x) => rNx pc L (.inl x :: S) M
  | _ => none
def rLoadL (L : List (Nat × rv)) (i pc : Nat) (S : List rv) (M : List rEnt) : Option rOut := match rGet L i with
  | some (.inr (.inl x)) => rNx pc L (.inr (.inl x) :: S) M
  | _ => none
def rLoadA (L : List (Nat × rv)) (i pc : Nat) (S : List rv) (M : List rEnt) : Option rOut := match rGet L i with
  | some (.inr (.inr x)) => rNx pc L (.inr (.inr x) :: S) M
  | _ => none
def rStoreI (nL : Nat) (L : List (Nat × rv)) (i pc : Nat) (S : List rv) (M : List rEnt) : Option rOut := match S with
  | .inl x :: r => if i < nL then rNx pc (rSet1 L i (.inl x)) r M else none
  | _ => none
def rStoreL (nL : Nat) (L : List (Nat × rv)) (i pc : Nat) (S : List rv) (M : List rEnt) : Option rOut := match S with
  | .inr (.inl x) :: r => if i + 1 < nL then rNx pc (rSet2 L i (.inr (.inl x))) r M else none
  | _ => none
def rStoreA (nL : Nat) (L : List (Nat × rv)) (i pc : Nat) (S : List rv) (M : List rEnt) : Option rOut := match S with
  | .inr (.inr x) :: r => if i < nL then rNx pc (rSet1 L i (.inr (.inr x))) r M else none
  | _ => none
def rBin (S : List rv) (f : Int32 → Int32 → Int32) (pc : Nat) (L : List (Nat × rv)) (M : List rEnt) : Option rOut := match S with
  | .inl y :: .inl x :: r => rNx pc L (.inl (f x y) :: r) M
  | _ => none
def rBin0 (S : List rv) (f : Int32 → Int32 → Int32) (pc : Nat) (L : List (Nat × rv)) (M : List rEnt) : Option rOut := match S with
  | .inl y :: .inl x :: r => if y = 0 then none else rNx pc L (.inl (f x y) :: r) M
  | _ => none
def rBinL (S : List rv) (f : Int64 → Int64 → Int64) (pc : Nat) (L : List (Nat × rv)) (M : List rEnt) : Option rOut := match S with
  | .inr (.inl y) :: .inr (.inl x) :: r => rNx pc L (.inr (.inl (f x y)) :: r) M
  | _ => none
def rBinL0 (S : List rv) (f : Int64 → Int64 → Int64) (pc : Nat) (L : List (Nat × rv)) (M : List rEnt) : Option rOut := match S with
  | .inr (.inl y) :: .inr (.inl x) :: r => if y = 0 then none else rNx pc L (.inr (.inl (f x y)) :: r) M
  | _ => none
/-- what a virtual call is made on: an object of the method's class -/
def rRecv (G : rTab) (y : Nat) (S : List rv) (M : List rEnt) : Bool := match G.1 y with
  | some (own, _, _, _, _, n, _) => match S[n - 1]? with
    | some (.inr (.inr (some k))) => match M[k]? with
      | some (.inr (.inr (ci, _))) => decide (ci = own) && decide (0 < n)
      | _ => false
    | _ => false
  | none => false
/-- how long an instruction is; none: any -/
def rLen : Instr → Option Nat
  | .iconst _ => some 1
  | .bipush _ => some 2
  | .sipush _ => some 3
  | .lconst _ => some 1
  | .ldc _ => some 2
  | .ldc_w _ => some 3
  | .ldc2_w _ => some 3
  | .iload_n _ => some 1
  | .iload _ => some 2
  | .lload_n _ => some 1
  | .lload _ => some 2
  | .aload_n _ => some 1
  | .aload _ => some 2
  | .istore_n _ => some 1
  | .istore _ => some 2
  | .lstore_n _ => some 1
  | .lstore _ => some 2
  | .astore_n _ => some 1
  | .astore _ => some 2
  | .iinc _ _ => some 3
  | .iadd => some 1
  | .isub => some 1
  | .imul => some 1
  | .iand => some 1
  | .ior => some 1
  | .ixor => some 1
  | .ishl => some 1
  | .iushr => some 1
  | .idiv => some 1
  | .irem => some 1
  | .lsub => some 1
  | .ldiv => some 1
  | .lrem => some 1
  | .lcmp => some 1
  | .ineg => some 1
  | .i2l => some 1
  | .dup => some 1
  | .dup2 => some 1
  | .ifCond _ _ => some 3
  | .if_icmp _ _ => some 3
  | .ifnonnull _ => some 3
  | .goto _ => some 3
  | .getfield _ => some 3
  | .putfield _ => some 3
  | .iaload => some 1
  | .iastore => some 1
  | .aaload => some 1
  | .aastore => some 1
  | .arraylength => some 1
  | .newarray .int => some 2
  | .new _ => some 3
  | .anewarray _ => some 3
  | .multianewarray _ 2 => some 4
  | .ireturn => some 1
  | .lreturn => some 1
  | .areturn => some 1
  | .return_ => some 1
  | .invokespecial _ => some 3
  | .invokevirtual _ => some 3
  | .invokestatic _ => some 3
  | _ => none
/-- one instruction -/
def rIns (G : rTab) (own nL : Nat) (ret : Option FieldType) (ini : Bool) (pc : Nat) (L : List (Nat × rv)) (S : List rv) (M : List rEnt) : Instr → Option rOut
  | .iconst n => rNx (pc + 1) L (.inl (Int32.ofInt n) :: S) M
  | .bipush n => rNx (pc + 2) L (.inl (Int8.ofInt n).toInt32 :: S) M
  | .sipush n => rNx (pc + 3) L (.inl (Int16.ofInt n).toInt32 :: S) M
  | .lconst n => rNx (pc + 1) L (.inr (.inl (Int64.ofNat (n : Nat))) :: S) M
  | .ldc i => match G.2.2.2.2.1 own i with
    | some v => rNx (pc + 2) L (.inl v :: S) M
    | none => none
  | .ldc_w i => match G.2.2.2.2.1 own i with
    | some v => rNx (pc + 3) L (.inl v :: S) M
    | none => none
  | .ldc2_w i => match G.2.2.2.2.2 own i with
    | some v => rNx (pc + 3) L (.inr (.inl v) :: S) M
    | none => none
  | .iload_n k => rLoadI L (k : Nat) (pc + 1) S M
  | .iload i => rLoadI L i (pc + 2) S M
  | .lload_n k => rLoadL L (k : Nat) (pc + 1) S M
  | .lload i => rLoadL L i (pc + 2) S M
  | .aload_n k => rLoadA L (k : Nat) (pc + 1) S M
  | .aload i => rLoadA L i (pc + 2) S M
  | .istore_n k => rStoreI nL L (k : Nat) (pc + 1) S M
  | .istore i => rStoreI nL L i (pc + 2) S M
  | .lstore_n k => rStoreL nL L (k : Nat) (pc + 1) S M
  | .lstore i => rStoreL nL L i (pc + 2) S M
  | .astore_n k => rStoreA nL L (k : Nat) (pc + 1) S M
  | .astore i => rStoreA nL L i (pc + 2) S M
  | .iinc i n => match rGet L i with
    | some (.inl x) => if i < nL then rNx (pc + 3) (rSet1 L i (.inl (x + Int32.ofInt n))) S M else none
    | _ => none
  | .iadd => rBin S (fun x y => x + y) (pc + 1) L M
  | .isub => rBin S (fun x y => x - y) (pc + 1) L M
  | .imul => rBin S (fun x y => x * y) (pc + 1) L M
  | .iand => rBin S (fun x y => x &&& y) (pc + 1) L M
  | .ior => rBin S (fun x y => x ||| y) (pc + 1) L M
  | .ixor => rBin S (fun x y => x ^^^ y) (pc + 1) L M
  | .ishl => rBin S (fun x y => x <<< (y &&& 31)) (pc + 1) L M
  | .iushr => rBin S (fun x y => (x.toUInt32 >>> (y.toUInt32 &&& Int32.toUInt32 31)).toInt32) (pc + 1) L M
  | .idiv => rBin0 S (fun x y => x / y) (pc + 1) L M
  | .irem => rBin0 S (fun x y => x - x / y * y) (pc + 1) L M
  | .lsub => rBinL S (fun x y => x - y) (pc + 1) L M
  | .ldiv => rBinL0 S (fun x y => x / y) (pc + 1) L M
  | .lrem => rBinL0 S (fun x y => x - x / y * y) (pc + 1) L M
  | .lcmp => match S with
    | .inr (.inl y) :: .inr (.inl x) :: r => rNx (pc + 1) L (.inl (lg_cmp x y) :: r) M
    | _ => none
  | .ineg => match S with
    | .inl x :: r => rNx (pc + 1) L (.inl (-x) :: r) M
    | _ => none
  | .i2l => match S with
    | .inl x :: r => rNx (pc + 1) L (.inr (.inl x.toInt64) :: r) M
    | _ => none
  | .dup => match S with
    | v :: r => if rCat v = 1 then rNx (pc + 1) L (v :: v :: r) M else none
    | _ => none
  | .dup2 => match S with
    | v :: w :: r => if rCat v = 1 ∧ rCat w = 1 then rNx (pc + 1) L (v :: w :: v :: w :: r) M else none
    | _ => none
  | .ifCond cd off => match S with
    | .inl x :: r => rIf (rTest cd x 0) pc off L r M
    | _ => none
  | .if_icmp cd off => match S with
    | .inl y :: .inl x :: r => rIf (rTest cd x y) pc off L r M
    | _ => none
  | .ifnonnull off => match S with
    | .inr (.inr (some _)) :: r => rJump pc off L r M
    | _ => none
  | .goto off => rJump pc off L S M
  | .tableswitch df lo hi offs => match S with
    | .inl x :: r => if x.toInt < lo ∨ hi < x.toInt then rJump pc df L r M else match offs[(x.toInt - lo).toNat]? with
      | some off => rJump pc off L r M
      | none => none
    | _ => none
  | .lookupswitch df ps => match S with
    | .inl x :: r => if (ps.toList.zip (ps.toList.drop 1)).all (fun (a, next) => a.1 < next.1) = true then rJump pc (Op.lookupswitch.offset ps.toList df x.toInt) L r M else none
    | _ => none
  | .getfield i => match S with
    | .inr (.inr (some k)) :: r => match G.2.1 own i with
      | some (ci, j, _, _, _) => match M[k]? with
        | some (.inr (.inr (c2, fs))) => if c2 = ci then match fs[j]? with
            | some v => rNx (pc + 3) L (v :: r) M
            | none => none
          else none
        | _ => none
      | none => none
    | _ => none
  | .putfield i => match S with
    | v :: .inr (.inr (some k)) :: r => match G.2.1 own i with
      | some (ci, j, t, fin, nest) => if rFits t v = true ∧ (fin = true → ini = true ∧ nest = false) then match rPut M k ci j v with
          | some M' => rNx (pc + 3) L r M'
          | none => none
        else none
      | none => none
    | _ => none
  | .iaload => match S with
    | .inl x :: .inr (.inr (some k)) :: r => match M[k]? with
      | some (.inl (n, f)) => if rIn x n then rNx (pc + 1) L (.inl (f x.toNatClampNeg) :: r) M else none
      | _ => none
    | _ => none
  | .iastore => match S with
    | .inl v :: .inl x :: .inr (.inr (some k)) :: r => match M[k]? with
      | some (.inl (n, f)) => if rIn x n then rNx (pc + 1) L r (M.set k (.inl (n, upd f x.toNatClampNeg v))) else none
      | _ => none
    | _ => none
  | .aaload => match S with
    | .inl x :: .inr (.inr (some k)) :: r => match M[k]? with
      | some (.inr (.inl (1, n, f))) => if rIn x n then rNx (pc + 1) L (.inr (.inr (f x.toNatClampNeg)) :: r) M else none
      | some (.inr (.inl (2, n, f))) => if rIn x n then rNx (pc + 1) L (.inr (.inr (f x.toNatClampNeg)) :: r) M else none
      | _ => none
    | _ => none
  | .aastore => match S with
    | .inr (.inr (some v)) :: .inl x :: .inr (.inr (some k)) :: r => match M[k]?, M[v]? with
      | some (.inr (.inl (1, n, f))), some (.inr (.inr (5, _))) => if rIn x n then rNx (pc + 1) L r (M.set k (.inr (.inl (1, n, va_up f x.toNatClampNeg (some v))))) else none
      | _, _ => none
    | _ => none
  | .arraylength => match S with
    | .inr (.inr (some k)) :: r => match M[k]? with
      | some (.inl (n, _)) => rNx (pc + 1) L (.inl (Int32.ofNat n) :: r) M
      | _ => none
    | _ => none
  | .newarray .int => match S with
    | .inl n :: r => if ¬ n < 0 ∧ n.toNatClampNeg ≤ 100000 then some (.inl (pc + 2, L, .inr (.inr (some M.length)) :: r, M ++ [.inl (n.toNatClampNeg, fun _ => 0)], 1, n.toNatClampNeg)) else none
    | _ => none
  | .new i => match G.2.2.2.1 own i with
    | some (ci, fs) => some (.inl (pc + 3, L, .inr (.inr (some M.length)) :: S, M ++ [.inr (.inr (ci, fs))], 1, fs.length))
    | none => none
  | .anewarray i => match S with
    | .inl n :: r => if G.2.2.1 own i = some (6, 0) ∧ ¬ n < 0 ∧ n.toNatClampNeg ≤ 100000 then some (.inl (pc + 3, L, .inr (.inr (some M.length)) :: r, M ++ [.inr (.inl (1, n.toNatClampNeg, fun _ => none))], 1, n.toNatClampNeg)) else none
    | _ => none
  | .multianewarray i 2 => match S with
    | .inl k :: .inl n :: r => if G.2.2.1 own i = some (7, 0) ∧ ¬ n < 0 ∧ ¬ k < 0 ∧ n.toNatClampNeg ≤ 100000 ∧ k.toNatClampNeg ≤ 100000 then
        some (.inl (pc + 4, L, .inr (.inr (some M.length)) :: r, (M ++ [.inr (.inl (2, n.toNatClampNeg, fun j => if j < n.toNatClampNeg then some (M.length + 1 + j) else none))]) ++ rZeros n.toNatClampNeg k.toNatClampNeg, 1 + n.toNatClampNeg, n.toNatClampNeg + n.toNatClampNeg * k.toNatClampNeg)) else none
    | _ => none
  | .ireturn => match S with
    | [.inl x] => if rRet ret (.inl x) = true then some (.inr (.inl (some (.inl x)))) else none
    | _ => none
  | .lreturn => match S with
    | [.inr (.inl x)] => if rRet ret (.inr (.inl x)) = true then some (.inr (.inl (some (.inr (.inl x))))) else none
    | _ => none
  | .areturn => match S with
    | [.inr (.inr x)] => if rRet ret (.inr (.inr x)) = true then some (.inr (.inl (some (.inr (.inr x))))) else none
    | _ => none
  | .return_ => match S with
    | [] => if ret = none then some (.inr (.inl none)) else none
    | _ => none
  | .invokespecial i => match G.2.2.1 own i with
    | some (0, _) => match S with
      | .inr (.inr (some _)) :: r => if rSum r ≤ 8 then rNx (pc + 3) L r M else none
      | _ => none
    | some (1, y) => if rRecv G y S M = true then rCallOf G y S else none
    | _ => none
  | .invokevirtual i => match G.2.2.1 own i with
    | some (2, y) => if rRecv G y S M = true then rCallOf G y S else none
    | _ => none
  | .invokestatic i => match G.2.2.1 own i with
    | some (3, y) => rCallOf G y S
    | some (4, y) => rCallOf G y S
    | some (5, _) => match S with
      | .inl n :: .inl dp :: .inr (.inr (some k1)) :: .inl sp :: .inr (.inr (some k0)) :: r => if rSum r ≤ 8 then match rCopy M k0 k1 sp dp n with
          | some M' => rNx (pc + 3) L r M'
          | none => none
        else none
      | _ => none
    | some (8, _) => match S with
      | .inl y :: .inl x :: r => if rSum r ≤ 8 then rNx (pc + 3) L (.inl (if x < y then y else x) :: r) M else none
      | _ => none
    | some (9, _) => match S with
      | .inl y :: .inl x :: r => if rSum r ≤ 8 then rNx (pc + 3) L (.inl (if y < x then y else x) :: r) M else none
      | _ => none
    | _ => none
  | _ => none
def rStep (G : rTab) (own nL : Nat) (ret : Option FieldType) (ini : Bool) (cc : ByteArray) (pc : Nat) (L : List (Nat × rv)) (S : List rv) (M : List rEnt) : Option rOut := match decode cc pc with
  | .ok (i, n) => if (rLen i = none ∨ rLen i = some n) then rIns G own nL ret ini pc L S M i else none
  | .error _ => none
/-- a method's body: at most n instructions of its own; a call by 'call' -/
def rB (G : rTab) (call : Nat → List rv → List rEnt → Option rRes) (own nL : Nat) (ret : Option FieldType) (ini : Bool) (cc : ByteArray) : Nat → Nat → List (Nat × rv) → List rv → List rEnt → Nat → Nat → Option rRes
  | 0, _, _, _, _, _, _ => none
  | n + 1, pc, L, S, M, c, z => match rStep G own nL ret ini cc pc L S M with
    | some (.inl (pc', L', S', M', dc, dz)) => rB G call own nL ret ini cc n pc' L' S' M' (c + dc) (z + dz)
    | some (.inr (.inl r)) => some (r, M, c, z)
    | some (.inr (.inr (y, as, r))) => match call y as M with
      | some (v, M', uc, uz) => rB G call own nL ret ini cc n (pc + 3) L (v.toList ++ r) M' (c + uc) (z + uz)
      | none => none
    | none => none
/-- a method, at most d calls deep, at most n instructions in each body -/
def rRun (G : rTab) (n : Nat) : Nat → Nat → List rv → List rEnt → Option rRes
  | 0, _, _, _ => none
  | d + 1, y, as, M => match G.1 y with
    | some (own, nm, cc, nL, ret, k, st) => if as.length = k ∧ rWide as ≤ nL then rB G (rRun G n d) own nL ret (nm.name == "<init>") cc n 0 (rArgs 0 as) [] M 0 0 else none
    | none => none
