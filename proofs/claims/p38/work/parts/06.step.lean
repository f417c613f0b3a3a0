/-! One instruction of the small machine is one of the JVM's -/
def zTW : List Cond := lw_tbl.filter goodWord
def zNestW (w : Cond) : Bool := match w with
  | .methodLinkNest .. => true
  | _ => false
def zNW : List Cond := tables_1.filter zNestW
def zcn (o : Nat) : String := zCN.getD o ""
def zcl (ci : Nat) : vw_C := vwCl.getD ci ("", TX0, 0)
def ztys : List (Nat → FieldType) := [tyX0, tyX1, tyX2, tyX3, tyX4, tyX5, tyX6, tyX7, tyX8, tyX9, tyX10, tyX11]
def zty (ci : Nat) : Nat → FieldType := ztys.getD ci tyX0
def zstart (mi b : Nat) : Option Nat := ((zBk mi)[b]?).map (·.1)
def zb32 (x : Int) : Bool := decide (-2147483648 ≤ x) && decide (x < 2147483648)
def zb64 (x : Int) : Bool := decide (-9223372036854775808 ≤ x) && decide (x < 9223372036854775808)
def zjmp (mi pc b : Nat) (off : Int) : Bool := match zstart mi b with
  | some t => decide ((pc : Int) + off = (t : Int))
  | none => false
/-- the table's targets are blocks -/
def ztabs (mi pc : Nat) : List Int → List Int → Bool
  | [], [] => true
  | o :: os, b :: bs => zjmp mi pc b.toNat o && ztabs mi pc os bs
  | _, _ => false
def zlooks (mi pc : Nat) : List (Int × Int) → List (Int × Int) → Bool
  | [], [] => true
  | o :: os, b :: bs => decide (o.1 = b.1) && zb32 o.1 && zjmp mi pc b.2.toNat o.2 && zlooks mi pc os bs
  | _, _ => false
/-- does an entry say what the instruction at pc is -/
def zokE (mi pc : Nat) (i : Instr) (len : Nat) (e : zEnt) : Bool := match i with
  | .iconst n => decide (e = (.iconst n, 0, 0)) && decide (len = 1) && zb32 n
  | .bipush n => (match e.1 with | .iconst v => decide ((Int8.ofInt n).toInt32 = Int32.ofInt v) && zb32 v | _ => false) && decide (len = 2)
  | .sipush n => (match e.1 with | .iconst v => decide ((Int16.ofInt n).toInt32 = Int32.ofInt v) && zb32 v | _ => false) && decide (len = 3)
  | .ldc ix => (match e.1 with | .iconst v => zKT.any (fun q => q.1 == zmO mi && (q.2.1 == ix && q.2.2.1 == v)) && zb32 v | _ => false) && decide (len = 2)
  | .ldc_w ix => (match e.1 with | .iconst v => zKT.any (fun q => q.1 == zmO mi && (q.2.1 == ix && q.2.2.1 == v)) && zb32 v | _ => false) && decide (len = 3)
  | .ldc2_w ix => (match e.1 with | .sipush v => zKL.any (fun q => q.1 == zmO mi && (q.2.1 == ix && q.2.2.1 == v)) && zb64 v | _ => false) && decide (len = 3)
  | .lconst n => decide (e = (.sipush (n.val : Int), 0, 0)) && decide (len = 1)
  | .iload_n k => decide (e = (.iload k.val, 0, 0)) && decide (len = 1)
  | .iload k => decide (e = (.iload k, 0, 0)) && decide (len = 2)
  | .lload_n k => decide (e = (.lload k.val, 0, 0)) && decide (len = 1)
  | .lload k => decide (e = (.lload k, 0, 0)) && decide (len = 2)
  | .aload_n k => decide (e = (.aload k.val, 0, 0)) && decide (len = 1)
  | .aload k => decide (e = (.aload k, 0, 0)) && decide (len = 2)
  | .istore_n k => decide (e = (.istore k.val, 0, 0)) && decide (len = 1)
  | .istore k => decide (e = (.istore k, 0, 0)) && decide (len = 2)
  | .lstore_n k => decide (e = (.lstore k.val, 0, 0)) && decide (len = 1)
  | .lstore k => decide (e = (.lstore k, 0, 0)) && decide (len = 2)
  | .astore_n k => decide (e = (.astore k.val, 0, 0)) && decide (len = 1)
  | .astore k => decide (e = (.astore k, 0, 0)) && decide (len = 2)
  | .iinc k n => decide (e = (.iinc k n, 0, 0)) && decide (len = 3)
  | .ifCond c off => decide (e.1 = .ifCond c 0) && decide (len = 3) && zjmp mi pc e.2.1 off
  | .if_icmp c off => decide (e.1 = .if_icmp c 0) && decide (len = 3) && zjmp mi pc e.2.1 off
  | .goto off => decide (e.1 = .goto 0) && decide (len = 3) && zjmp mi pc e.2.1 off
  | .tableswitch d lo hi offs => match e.1 with
    | .tableswitch d' lo' hi' bs => decide (lo' = lo) && decide (hi' = hi) && zjmp mi pc d'.toNat d && ztabs mi pc offs.toList bs.toList && decide ((offs.toList.length : Int) = hi - lo + 1)
    | _ => false
  | .lookupswitch d ps => match e.1 with
    | .lookupswitch d' bs => zjmp mi pc d'.toNat d && zlooks mi pc ps.toList bs.toList && (ps.toList.zip (ps.toList.drop 1)).all (fun (a, next) => a.1 < next.1)
    | _ => false
  | .getfield ix => decide (e.1 = .getfield 0) && decide (len = 3) && zFT.any (fun q => q.1 == zmO mi && (q.2.1 == ix && (q.2.2.1 == e.2.1 && q.2.2.2.1 == e.2.2)))
  | .putfield ix => decide (e.1 = .putfield 0) && decide (len = 3) && zFT.any (fun q => q.1 == zmO mi && (q.2.1 == ix && (q.2.2.1 == e.2.1 && q.2.2.2.1 == e.2.2))) && (!((zcl e.2.1).2.1 e.2.2).2.2.2 || (zmI mi && zmO mi == e.2.1))
  | .getstatic ix => decide (e.1 = .getstatic 0) && decide (len = 3) && zST.any (fun q => q.1 == zmO mi && q.2.1 == ix)
  | .new ix => decide (e.1 = .new 0) && decide (len = 3) && zNT.any (fun q => q.1 == zmO mi && (q.2.1 == ix && q.2.2.1 == e.2.1))
  | .newarray t => decide (e.1 = .newarray t) && decide (len = 2)
  | .invokespecial ix => decide (len = 3) && ((decide (e.1 = .nop) && zOT.any (fun q => q.1 == zmO mi && q.2.1 == ix)) || (decide (e.1 = .invokevirtual 0) && zCT.any (fun q => q.1 == zmO mi && (q.2.1 == ix && (q.2.2.1 == e.2.1 && q.2.2.2.1 == 2)))))
  | .invokestatic ix => decide (len = 3) && ((decide (e.1 = .fadd) && zMT.any (fun q => q.1 == zmO mi && (q.2.1 == ix && q.2.2.1 == 0))) || (decide (e.1 = .fsub) && zMT.any (fun q => q.1 == zmO mi && (q.2.1 == ix && q.2.2.1 == 1))) || (decide (e.1 = .dsub) && zMT.any (fun q => q.1 == zmO mi && (q.2.1 == ix && q.2.2.1 == 2))) || (decide (e.1 = .swap) && zAT.any (fun q => q.1 == zmO mi && q.2.1 == ix)) || (decide (e.1 = .invokestatic 0) && zCT.any (fun q => q.1 == zmO mi && (q.2.1 == ix && (q.2.2.1 == e.2.1 && q.2.2.2.1 == 1)))))
  | .invokevirtual ix => decide (len = 3) && (decide (e.1 = .invokevirtual 0) && zCT.any (fun q => q.1 == zmO mi && (q.2.1 == ix && (q.2.2.1 == e.2.1 && q.2.2.2.1 == 0))))
  | .iadd | .isub | .imul | .idiv | .irem | .iand | .ior | .ixor | .ishl | .ishr | .iushr | .ladd | .lsub | .lmul | .ldiv | .lrem | .land | .lor | .lcmp | .lshl | .lshr | .i2l | .i2b | .l2i | .dup | .dup2 | .pop | .iaload | .laload | .baload | .iastore | .lastore | .bastore | .arraylength | .ireturn | .lreturn | .return_ => decide (e = (i, 0, 0)) && decide (len = 1)
  | _ => false
def zchk (mi : Nat) : Nat → List zEnt → Bool
  | _, [] => true
  | pc, e :: es => if e.1 = .goto_w 0 then zstart mi e.2.1 == some pc && zchk mi pc es else match decode (zmC mi) pc with
    | .ok (i, len) => zokE mi pc i len e && zchk mi (pc + len) es
    | .error _ => false
def zall (mi : Nat) : Bool := (zBk mi).all fun q => zchk mi q.1 q.2
-- the tables' words
theorem zTW_of {w : Cond} (h : w ∈ tables_1) (hg : goodWord w = true) : w ∈ zTW := List.mem_filter.mpr ⟨List.mem_append_right _ h, hg⟩
theorem zFT_ok : ∀ q ∈ zFT, q.2.2.1 < 11 ∧ q.2.2.2.1 < znf q.2.2.1 ∧ tables_1[q.2.2.2.2]? = some (.fieldLink (zcn q.1) q.2.1 ((zcl q.2.2.1).2.1 q.2.2.2.1).1 ((zcl q.2.2.1).2.1 q.2.2.2.1).2.1 ((zcl q.2.2.1).2.1 q.2.2.2.1).2.2.1) := by decide +kernel
theorem zKT_ok : ∀ q ∈ zKT, tables_1[q.2.2.2]? = some (.constant (zcn q.1) q.2.1 (Int32.ofInt q.2.2.1)) := by decide +kernel
theorem zKL_ok : ∀ q ∈ zKL, tables_1[q.2.2.2]? = some (.constantLong (zcn q.1) q.2.1 (Int64.ofInt q.2.2.1)) := by decide +kernel
theorem zNT_ok : ∀ q ∈ zNT, q.2.2.1 < 11 ∧ tables_1[q.2.2.2.1]? = some (.classLink (zcn q.1) q.2.1 (zcl q.2.2.1).1) ∧ tables_1[q.2.2.2.2.1]? = some (.instantiable (zcl q.2.2.1).1 (znf q.2.2.1)) ∧ tables_1[q.2.2.2.2.2]? = some (.initialized (zcl q.2.2.1).1) := by decide +kernel
theorem zOT_ok : ∀ q ∈ zOT, tables_1[q.2.2]? = some (.methodLink (zcn q.1) q.2.1 objectInit) := by decide +kernel
theorem zAT_ok : ∀ q ∈ zAT, tables_1[q.2.2]? = some (.methodLink (zcn q.1) q.2.1 arraycopyName) := by decide +kernel
def zmathN (k : Nat) : MethodName := if k = 0 then Lib.Math.max.name else if k = 1 then Lib.Math.min.name else Lib.MathLoose.min_long.x
theorem zMT_ok : ∀ q ∈ zMT, tables_1[q.2.2.2]? = some (.methodLink (zcn q.1) q.2.1 (zmathN q.2.2.1)) := by decide +kernel
theorem zmath_in : Cond.initialized "java/lang/Math" ∈ zTW ∧ Cond.static Lib.Math.max.name ∈ zTW ∧ Cond.static Lib.Math.min.name ∈ zTW ∧ Cond.code Lib.Math.max.name Lib.Math.max.code 2 (some .int) ∈ zTW ∧ Cond.code Lib.Math.min.name Lib.Math.min.code 2 (some .int) ∈ zTW :=
  ⟨zTW_of (List.mem_of_getElem? (i := 13) (by decide +kernel)) rfl, zTW_of (List.mem_of_getElem? (i := 599) (by decide +kernel)) rfl, zTW_of (List.mem_of_getElem? (i := 602) (by decide +kernel)) rfl, zTW_of (List.mem_of_getElem? (i := 600) (by decide +kernel)) rfl, zTW_of (List.mem_of_getElem? (i := 603) (by decide +kernel)) rfl⟩
theorem zMT_no2 : ∀ q ∈ zMT, q.2.2.1 ≠ 2 := by decide
theorem zAT_no : ∀ q ∈ zAT, False := by decide
theorem zST_no : ∀ q ∈ zST, False := by decide
theorem zobj_in : Cond.instanceMethod objectInit ∈ zTW ∧ Cond.code objectInit ⟨#[0xb1]⟩ 1 none ∈ zTW := ⟨zTW_of (List.mem_of_getElem? (i := 20) (by decide +kernel)) rfl, zTW_of (List.mem_of_getElem? (i := 21) (by decide +kernel)) rfl⟩
theorem zarr_in : Cond.arrayClass .int ∈ zTW ∧ Cond.arrayClass .long ∈ zTW := ⟨zTW_of (List.mem_of_getElem? (i := 78) (by decide +kernel)) rfl, zTW_of (List.mem_of_getElem? (i := 300) (by decide +kernel)) rfl⟩
theorem zcl_at : ∀ ci, ci < 11 → vwCl[ci]? = some (zcl ci) ∧ (zcl ci).2.2 = znf ci := by
  intro ci h
  have : ci = 0 ∨ ci = 1 ∨ ci = 2 ∨ ci = 3 ∨ ci = 4 ∨ ci = 5 ∨ ci = 6 ∨ ci = 7 ∨ ci = 8 ∨ ci = 9 ∨ ci = 10 := by omega
  rcases this with rfl | rfl | rfl | rfl | rfl | rfl | rfl | rfl | rfl | rfl | rfl <;> exact ⟨rfl, rfl⟩
theorem zcl_ws : ∀ ci, ci < 11 → ((u_ws (zcl ci).1 (zcl ci).2.1 (znf ci)).all fun w => decide (w ∈ tables_1) && goodWord w) = true := by decide +kernel
theorem zcl_in {ci : Nat} (h : ci < 11) : ∀ w ∈ u_ws (zcl ci).1 (zcl ci).2.1 (znf ci), w ∈ zTW := by
  intro w hw
  have h1 := List.all_eq_true.mp (zcl_ws ci h) w hw
  simp only [Bool.and_eq_true, decide_eq_true_eq] at h1
  exact zTW_of h1.1 h1.2
theorem zty_ok : ∀ ci, ci < 11 → ∀ k, k < znf ci → parseFieldDescriptor ((zcl ci).2.1 k).2.2.1 = some (zty ci k) := by decide +kernel
def zfc (t : FieldType) : Nat := match t with
  | .int => 0
  | .long => 1
  | .boolean => 2
  | .object _ => 3
  | .array _ => 3
  | _ => 9
theorem zfc_ok : ∀ ci, ci < 11 → ∀ k, k < znf ci → zfty ci k = zfc (zty ci k) ∧ zfty ci k ≤ 3 := by decide +kernel
theorem zdecl_ok : ∀ ci, ci < 11 → ∀ k, k < znf ci → ((zcl ci).2.1 k).1 = zcn ci := by decide +kernel
theorem znm_ok : ∀ ci, ci < 11 → ∀ a, a < znf ci → ∀ b, b < znf ci → a ≠ b → ((zcl ci).2.1 a).2.1 ≠ ((zcl ci).2.1 b).2.1 := by decide +kernel
theorem zsize_ok : ∀ ci, ci < 11 → znf ci < 100 := by decide +kernel
