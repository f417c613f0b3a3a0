/-! A small machine: values are whole numbers, references are places in a list of cells. What it computes, the JVM computes (part 06). -/
abbrev zMV : Type := Int ⊕ (Int ⊕ Option Nat)
abbrev zI (x : Int) : zMV := .inl x
abbrev zL (x : Int) : zMV := .inr (.inl x)
abbrev zR (k : Nat) : zMV := .inr (.inr (some k))
abbrev zU : zMV := .inr (.inr none)
/-- a cell's kind (0 ints, 1 longs, 2 booleans, 3 + class), how many slots, the references of an object -/
abbrev zSh : Type := Nat × Nat × List (Option Nat)
/-- the cells, and what their numbers are -/
abbrev zWd : Type := List zSh × (Nat → Int → Int)
def zup (M : Nat → Int → Int) (k : Nat) (i v : Int) : Nat → Int → Int := fun k' i' => if k' = k ∧ i' = i then v else M k' i'
def zzero (M : Nat → Int → Int) (k : Nat) : Nat → Int → Int := fun k' i' => if k' = k then 0 else M k' i'
def zfty (ci k : Nat) : Nat := (zFTy.getD ci []).getD k 9
def znf (ci : Nat) : Nat := (zFTy.getD ci []).length
def zmi (mi : Nat) : MethodName × ByteArray × Nat × Option FieldType × Nat × Nat × Bool × Bool := zMI.getD mi (yL_law, cL_law, 0, none, 0, 0, false, false)
def zmN (mi : Nat) : MethodName := (zmi mi).1
def zmC (mi : Nat) : ByteArray := (zmi mi).2.1
def zmL (mi : Nat) : Nat := (zmi mi).2.2.1
def zmR (mi : Nat) : Option FieldType := (zmi mi).2.2.2.1
def zmO (mi : Nat) : Nat := (zmi mi).2.2.2.2.1
def zmA (mi : Nat) : Nat := (zmi mi).2.2.2.2.2.1
def zmI (mi : Nat) : Bool := (zmi mi).2.2.2.2.2.2.2
def zmS (mi : Nat) : Bool := (zmi mi).2.2.2.2.2.2.1
def zBk (mi : Nat) : List (Nat × List zEnt) := zBs.getD mi []
def zblk (mi b : Nat) : List zEnt := ((zBk mi).getD b (0, [])).2
-- numbers
def zadd (x y : Int) : Int := (Int32.ofInt x + Int32.ofInt y).toInt
def zsub (x y : Int) : Int := (Int32.ofInt x - Int32.ofInt y).toInt
def zmul (x y : Int) : Int := (Int32.ofInt x * Int32.ofInt y).toInt
def zdiv (x y : Int) : Int := (Int32.ofInt x / Int32.ofInt y).toInt
def zrem (x y : Int) : Int := (Int32.ofInt x - Int32.ofInt x / Int32.ofInt y * Int32.ofInt y).toInt
def zand (x y : Int) : Int := (Int32.ofInt x &&& Int32.ofInt y).toInt
def zor (x y : Int) : Int := (Int32.ofInt x ||| Int32.ofInt y).toInt
def zxor (x y : Int) : Int := (Int32.ofInt x ^^^ Int32.ofInt y).toInt
def zshl (x y : Int) : Int := (Int32.ofInt x <<< (Int32.ofInt y &&& 31)).toInt
def zshr (x y : Int) : Int := (Int32.ofInt x >>> (Int32.ofInt y &&& 31)).toInt
def zushr (x y : Int) : Int := ((Int32.ofInt x).toUInt32 >>> ((Int32.ofInt y).toUInt32 &&& Int32.toUInt32 31)).toInt32.toInt
def zi2b (x : Int) : Int := ((Int32.ofInt x).toInt8.toInt32).toInt
def zl2i (x : Int) : Int := ((Int64.ofInt x).toInt32).toInt
def zladd (x y : Int) : Int := (Int64.ofInt x + Int64.ofInt y).toInt
def zlsub (x y : Int) : Int := (Int64.ofInt x - Int64.ofInt y).toInt
def zlmul (x y : Int) : Int := (Int64.ofInt x * Int64.ofInt y).toInt
def zldiv (x y : Int) : Int := (Int64.ofInt x / Int64.ofInt y).toInt
def zlrem (x y : Int) : Int := (Int64.ofInt x - Int64.ofInt x / Int64.ofInt y * Int64.ofInt y).toInt
def zland (x y : Int) : Int := (Int64.ofInt x &&& Int64.ofInt y).toInt
def zlor (x y : Int) : Int := (Int64.ofInt x ||| Int64.ofInt y).toInt
def zlshl (x y : Int) : Int := (Int64.ofInt x <<< ((Int32.ofInt y).toInt64 &&& 63)).toInt
def zlshr (x y : Int) : Int := (Int64.ofInt x >>> ((Int32.ofInt y).toInt64 &&& 63)).toInt
def zlcmp (x y : Int) : Int := if x < y then -1 else if x = y then 0 else 1
def zcmp (c : ClassFile.Cond) (x y : Int) : Bool := match c with
  | .eq => decide (x = y)
  | .ne => decide (x ≠ y)
  | .lt => decide (x < y)
  | .ge => decide (y ≤ x)
  | .gt => decide (y < x)
  | .le => decide (x ≤ y)
-- stack and locals
def zcat (v : zMV) : Nat := match v with
  | .inr (.inl _) => 2
  | _ => 1
def zcats (st : List zMV) : Nat := (st.map zcat).sum
def zspread : List zMV → List zMV
  | [] => []
  | v :: vs => match v with
    | .inr (.inl x) => .inr (.inl x) :: zU :: zspread vs
    | v => v :: zspread vs
def zlocs (vs : List zMV) (n : Nat) : List zMV := zspread vs ++ List.replicate (n - (zspread vs).length) zU
def zset1 (L : List zMV) (j : Nat) (v : zMV) : List zMV := match j with
  | 0 => L.set 0 v
  | i + 1 => (match L[i]? with
    | some (.inr (.inl _)) => L.set i zU
    | _ => L).set (i + 1) v
def zset2 (L : List zMV) (j : Nat) (v : zMV) : List zMV := (zset1 L j v).set (j + 1) zU
def ztsw (d : Nat) (lo hi : Int) (offs : Array Int) (x : Int) : Nat := if x < lo ∨ hi < x then d else ((offs.toList)[(x - lo).toNat]?.getD 0).toNat
def zlsw (d : Nat) (ps : List (Int × Int)) (x : Int) : Nat := match ps with
  | [] => d
  | (a, t) :: r => if x = a then t.toNat else zlsw d r x
abbrev zNx : Type := Option Nat × List zMV × List zMV × zWd
/-- two ints on the stack -/
def zii (st : List zMV) (f : Int → Int → Option zMV) : Option (List zMV) := match st with
  | .inl y :: .inl x :: r => (f x y).map (· :: r)
  | _ => none
def zll (st : List zMV) (f : Int → Int → Option zMV) : Option (List zMV) := match st with
  | .inr (.inl y) :: .inr (.inl x) :: r => (f x y).map (· :: r)
  | _ => none
def zli (st : List zMV) (f : Int → Int → Option zMV) : Option (List zMV) := match st with
  | .inl y :: .inr (.inl x) :: r => (f x y).map (· :: r)
  | _ => none
/-- what a field holds -/
def zgetf (w : zWd) (k ci j : Nat) : Option zMV := match w.1[k]? with
  | some (kd, _, rs) => if kd = 3 + ci ∧ j < znf ci then (match zfty ci j with
      | 0 => some (zI (w.2 k j))
      | 1 => some (zL (w.2 k j))
      | 2 => some (zI (w.2 k j))
      | _ => match rs[j]? with
        | some (some r) => some (zR r)
        | _ => none) else none
  | none => none
def zputf (w : zWd) (k ci j : Nat) (v : zMV) : Option zWd := match w.1[k]? with
  | some (kd, n, rs) => if kd = 3 + ci ∧ j < znf ci ∧ 2 ≤ k then (match zfty ci j, v with
      | 0, .inl x => some (w.1, zup w.2 k j x)
      | 1, .inr (.inl x) => some (w.1, zup w.2 k j x)
      | 2, .inl x => if x = 0 ∨ x = 1 then some (w.1, zup w.2 k j x) else none
      | 3, .inr (.inr (some r)) => some (w.1.set k (kd, n, rs.set j (some r)), w.2)
      | _, _ => none) else none
  | none => none
/-- how long a row of a kind is -/
def zlen (w : zWd) (k kd : Nat) : Option Nat := match w.1[k]? with
  | some (k', n, _) => if k' = kd then some n else none
  | none => none
/-- how long a row of ints or longs is -/
def zlen1 (w : zWd) (k : Nat) : Option Nat := match zlen w k 0 with
  | some n => some n
  | none => if 2 ≤ k then zlen w k 1 else none
def zaget (w : zWd) (k kd : Nat) (i : Int) : Option Int := match zlen w k kd with
  | some n => if 0 ≤ i ∧ i < n then some (w.2 k i) else none
  | none => none
def zaput (w : zWd) (k kd : Nat) (i v : Int) : Option zWd := match zlen w k kd with
  | some n => if 0 ≤ i ∧ i < n ∧ 2 ≤ k then some (w.1, zup w.2 k i v) else none
  | none => none
def zfall (L : List zMV) (w : zWd) (st : Option (List zMV)) : Option zNx := st.map fun st => (none, L, st, w)
def zkd (t : ArrayType) : Option Nat := match t with
  | .int => some 0
  | .long => some 1
  | _ => none
/-- ints copied as if all were taken ahead -/
def zcpy (M : Nat → Int → Int) (a : Nat) (i : Int) (b : Nat) (j n : Int) : Nat → Int → Int := fun k x => if k = b ∧ j ≤ x ∧ x < j + n then M a (i + (x - j)) else M k x
/-- one instruction that neither calls nor returns; some b: on at block b -/
def znxt (e : zEnt) (L st : List zMV) (w : zWd) : Option zNx := match e.1 with
  | .iconst v => zfall L w (some (zI v :: st))
  | .sipush v => zfall L w (some (zL v :: st))
  | .iload j => match L[j]? with
    | some (.inl x) => zfall L w (some (zI x :: st))
    | _ => none
  | .lload j => match L[j]? with
    | some (.inr (.inl x)) => zfall L w (some (zL x :: st))
    | _ => none
  | .aload j => match L[j]? with
    | some (.inr (.inr (some k))) => zfall L w (some (zR k :: st))
    | _ => none
  | .istore j => match st with
    | .inl x :: r => if j < L.length then zfall (zset1 L j (zI x)) w (some r) else none
    | _ => none
  | .astore j => match st with
    | .inr (.inr (some k)) :: r => if j < L.length then zfall (zset1 L j (zR k)) w (some r) else none
    | _ => none
  | .lstore j => match st with
    | .inr (.inl x) :: r => if j + 1 < L.length then zfall (zset2 L j (zL x)) w (some r) else none
    | _ => none
  | .iinc j n => match L[j]? with
    | some (.inl x) => if j < L.length then zfall (zset1 L j (zI (zadd x n))) w (some st) else none
    | _ => none
  | .iadd => zfall L w (zii st fun x y => some (zI (zadd x y)))
  | .isub => zfall L w (zii st fun x y => some (zI (zsub x y)))
  | .imul => zfall L w (zii st fun x y => some (zI (zmul x y)))
  | .idiv => zfall L w (zii st fun x y => if y = 0 then none else some (zI (zdiv x y)))
  | .irem => zfall L w (zii st fun x y => if y = 0 then none else some (zI (zrem x y)))
  | .iand => zfall L w (zii st fun x y => some (zI (zand x y)))
  | .ior => zfall L w (zii st fun x y => some (zI (zor x y)))
  | .ixor => zfall L w (zii st fun x y => some (zI (zxor x y)))
  | .ishl => zfall L w (zii st fun x y => some (zI (zshl x y)))
  | .ishr => zfall L w (zii st fun x y => some (zI (zshr x y)))
  | .iushr => zfall L w (zii st fun x y => some (zI (zushr x y)))
  | .ladd => zfall L w (zll st fun x y => some (zL (zladd x y)))
  | .lsub => zfall L w (zll st fun x y => some (zL (zlsub x y)))
  | .lmul => zfall L w (zll st fun x y => some (zL (zlmul x y)))
  | .ldiv => zfall L w (zll st fun x y => if y = 0 then none else some (zL (zldiv x y)))
  | .lrem => zfall L w (zll st fun x y => if y = 0 then none else some (zL (zlrem x y)))
  | .land => zfall L w (zll st fun x y => some (zL (zland x y)))
  | .lor => zfall L w (zll st fun x y => some (zL (zlor x y)))
  | .lcmp => zfall L w (zll st fun x y => some (zI (zlcmp x y)))
  | .lshl => zfall L w (zli st fun x y => some (zL (zlshl x y)))
  | .lshr => zfall L w (zli st fun x y => some (zL (zlshr x y)))
  | .fadd => if zcats st ≤ 12 then zfall L w (zii st fun x y => some (zI (if x < y then y else x))) else none
  | .fsub => if zcats st ≤ 12 then zfall L w (zii st fun x y => some (zI (if y < x then y else x))) else none
  | .dsub => if zcats st ≤ 12 then zfall L w (zll st fun x y => some (zL (if y < x then y else x))) else none
  | .i2l => match st with
    | .inl x :: r => zfall L w (some (zL x :: r))
    | _ => none
  | .i2b => match st with
    | .inl x :: r => zfall L w (some (zI (zi2b x) :: r))
    | _ => none
  | .l2i => match st with
    | .inr (.inl x) :: r => zfall L w (some (zI (zl2i x) :: r))
    | _ => none
  | .dup => match st with
    | v :: r => if v = zU ∨ zcat v ≠ 1 then none else zfall L w (some (v :: v :: r))
    | _ => none
  | .dup2 => match st with
    | v :: u :: r => if v = zU ∨ zcat v ≠ 1 ∨ u = zU ∨ zcat u ≠ 1 then none else zfall L w (some (v :: u :: v :: u :: r))
    | _ => none
  | .pop => match st with
    | v :: r => if v = zU ∨ zcat v ≠ 1 then none else zfall L w (some r)
    | _ => none
  | .ifCond c _ => match st with
    | .inl x :: r => some (if zcmp c x 0 = true then some e.2.1 else none, L, r, w)
    | _ => none
  | .if_icmp c _ => match st with
    | .inl y :: .inl x :: r => some (if zcmp c x y = true then some e.2.1 else none, L, r, w)
    | _ => none
  | .goto _ => some (some e.2.1, L, st, w)
  | .goto_w _ => some (some e.2.1, L, st, w)
  | .tableswitch d lo hi offs => match st with
    | .inl x :: r => some (some (ztsw d.toNat lo hi offs x), L, r, w)
    | _ => none
  | .lookupswitch d ps => match st with
    | .inl x :: r => some (some (zlsw d.toNat ps.toList x), L, r, w)
    | _ => none
  | .getfield _ => match st with
    | .inr (.inr (some k)) :: r => zfall L w ((zgetf w k e.2.1 e.2.2).map (· :: r))
    | _ => none
  | .putfield _ => match st with
    | v :: .inr (.inr (some k)) :: r => (zputf w k e.2.1 e.2.2 v).map fun w' => (none, L, r, w')
    | _ => none
  | .getstatic _ => none
  | .iaload => match st with
    | .inl i :: .inr (.inr (some k)) :: r => zfall L w ((zaget w k 0 i).map (zI · :: r))
    | _ => none
  | .laload => match st with
    | .inl i :: .inr (.inr (some k)) :: r => zfall L w ((if 2 ≤ k then zaget w k 1 i else none).map (zL · :: r))
    | _ => none
  | .baload => none
  | .iastore => match st with
    | .inl v :: .inl i :: .inr (.inr (some k)) :: r => (zaput w k 0 i v).map fun w' => (none, L, r, w')
    | _ => none
  | .lastore => match st with
    | .inr (.inl v) :: .inl i :: .inr (.inr (some k)) :: r => (zaput w k 1 i v).map fun w' => (none, L, r, w')
    | _ => none
  | .bastore => none
  | .arraylength => match st with
    | .inr (.inr (some k)) :: r => zfall L w ((zlen1 w k).map fun n => zI n :: r)
    | _ => none
  | .new _ => some (none, L, zR w.1.length :: st, (w.1 ++ [(3 + e.2.1, znf e.2.1, List.replicate (znf e.2.1) none)], zzero w.2 w.1.length))
  | .newarray t => match st with
    | .inl n :: r => match zkd t with
      | some kd => if 0 ≤ n ∧ n ≤ 100000 then some (none, L, zR w.1.length :: r, (w.1 ++ [(kd, n.toNat, [])], zzero w.2 w.1.length)) else none
      | none => none
    | _ => none
  | .nop => match st with
    | .inr (.inr (some _)) :: r => if zcats r ≤ 8 then some (none, L, r, w) else none
    | _ => none
  | .swap => match st with
    | .inl n :: .inl j :: .inr (.inr (some b)) :: .inl i :: .inr (.inr (some a)) :: r => match zlen w a 0, zlen w b 0 with
      | some na, some nb => if 0 ≤ n ∧ 0 ≤ i ∧ 0 ≤ j ∧ i + n ≤ na ∧ j + n ≤ nb ∧ 2 ≤ a ∧ 2 ≤ b ∧ zcats r ≤ 8 then some (none, L, r, (w.1, zcpy w.2 a i b j n)) else none
      | _, _ => none
    | _ => none
  | _ => none
/-- does a value fit what a method answers -/
def zrok (t : Option FieldType) (i : Instr) (st : List zMV) : Option (Option zMV) := match i, t, st with
  | .return_, none, [] => some none
  | .ireturn, some .int, [.inl x] => some (some (zI x))
  | .ireturn, some .boolean, [.inl x] => if x = 0 ∨ x = 1 then some (some (zI x)) else none
  | .lreturn, some .long, [.inr (.inl x)] => some (some (zL x))
  | _, _, _ => none
/-- a call's receiver is of the class -/
def zrecv (w : zWd) (mi : Nat) (vs : List zMV) : Bool := match vs with
  | .inr (.inr (some k)) :: _ => match w.1[k]? with
    | some (kd, _) => decide (kd = 3 + zmO mi) && decide (2 ≤ k)
    | none => false
  | _ => false
abbrev zRn : Type := Nat → Nat → List zEnt → List zMV → List zMV → zWd → Option (Option zMV × zWd)
/-- a call, then the rest -/
def zcall (rc : zRn) (d mi m2 : Nat) (es : List zEnt) (L vs r : List zMV) (w : zWd) : Option (Option zMV × zWd) := match d with
  | 0 => none
  | d' + 1 => if zcats r ≤ 8 ∧ (zspread vs).length ≤ zmL m2 then
      match rc d' m2 (zblk m2 0) (zlocs vs (zmL m2)) [] w with
      | some (v, w') => rc (d' + 1) mi es L (v.toList ++ r) w'
      | none => none
    else none
def zbody (rc : zRn) (d mi : Nat) (e : zEnt) (es : List zEnt) (L st : List zMV) (w : zWd) : Option (Option zMV × zWd) := match e.1 with
  | .invokevirtual _ => if (st.take (zmA e.2.1 + 1)).length = zmA e.2.1 + 1 ∧ zrecv w e.2.1 (st.take (zmA e.2.1 + 1)).reverse = true then zcall rc d mi e.2.1 es L (st.take (zmA e.2.1 + 1)).reverse (st.drop (zmA e.2.1 + 1)) w else none
  | .invokestatic _ => if (st.take (zmA e.2.1)).length = zmA e.2.1 then zcall rc d mi e.2.1 es L (st.take (zmA e.2.1)).reverse (st.drop (zmA e.2.1)) w else none
  | .return_ => (zrok (zmR mi) .return_ st).map (·, w)
  | .ireturn => (zrok (zmR mi) .ireturn st).map (·, w)
  | .lreturn => (zrok (zmR mi) .lreturn st).map (·, w)
  | _ => match znxt e L st w with
    | some (none, L', st', w') => rc d mi es L' st' w'
    | some (some b, L', st', w') => rc d mi (zblk mi b) L' st' w'
    | none => none
def zrun : Nat → zRn
  | 0, _, _, _, _, _, _ => none
  | n + 1, d, mi, es, L, st, w => match es with
    | [] => none
    | e :: es => zbody (zrun n) d mi e es L st w
theorem zrun_eq (n d mi : Nat) (e : zEnt) (es : List zEnt) (L st : List zMV) (w : zWd) : zrun (n + 1) d mi (e :: es) L st w = zbody (zrun n) d mi e es L st w := rfl
