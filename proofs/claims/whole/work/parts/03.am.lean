/-! THE ABSTRACT MACHINE: what this file's methods do, over a heap that is a function; no tables, no frames of the real machine. The next part shows once that the real machine follows it. -/
/-- what a cell holds: an array of a type, or an object of a class (by its place in the class table) with its fields -/
abbrev am_E : Type := (FieldType × vp_A) ⊕ (Nat × List Value)
/-- the heap, the next address, how many slots were made, what statics and String constants hold -/
abbrev am_S : Type := (Nat → Option am_E) × Nat × Nat × (Nat → Value)
/-- a method's end: it returned, or it threw an object of a class (0, 1: am_exn) -/
abbrev am_O : Type := Option Value ⊕ Nat
def am_exn : Nat → String
  | 0 => "java/lang/IllegalArgumentException"
  | _ => "java/lang/IndexOutOfBoundsException"
/-- a row of code: pc, the instruction, its length, three numbers that its kind explains, which locals are forgotten ahead of it -/
abbrev am_X : Type := Nat × Instr × Nat × Nat × Nat × Nat × List Nat
/-- a method: name, bytes, locals, return type, kind (0 static, 1 instance, 2 constructor), level, exception table, code, places of its words -/
abbrev am_M : Type := MethodName × ByteArray × Nat × Option FieldType × Nat × Nat × List (Nat × Nat × Nat × Nat × Nat) × List am_X × List Nat
abbrev am_name (M : am_M) : MethodName := M.1
abbrev am_bytes (M : am_M) : ByteArray := M.2.1
abbrev am_maxL (M : am_M) : Nat := M.2.2.1
abbrev am_retT (M : am_M) : Option FieldType := M.2.2.2.1
abbrev am_kind (M : am_M) : Nat := M.2.2.2.2.1
abbrev am_lev (M : am_M) : Nat := M.2.2.2.2.2.1
abbrev am_hh (M : am_M) : List (Nat × Nat × Nat × Nat × Nat) := M.2.2.2.2.2.2.1
abbrev am_code (M : am_M) : List am_X := M.2.2.2.2.2.2.2.1
abbrev am_hint (M : am_M) : List Nat := M.2.2.2.2.2.2.2.2
/-- a class: name, fields, how many, their types, whether its objects are made and written here -/
abbrev am_C : Type := String × u_T × Nat × (Nat → FieldType) × Bool
/-- where the machine goes -/
abbrev am_T : Type := (Nat × List Value × List Value × am_S) ⊕ (am_O × am_S)
def am_un : Value := .retAddr 0
/-- words of values -/
def am_w (l : List Value) : Nat := (l.map fun v => v.category).sum
def am_stL (L : List Value) (i : Nat) (v : Value) : List Value :=
  L.mapIdx fun j w => if j = i then v else if (j + 1 = i ∧ w.category = 2) ∨ (j = i + 1 ∧ v.category = 2) then am_un else w
def am_entry (args : List Value) (n : Nat) : List Value :=
  let l := args.flatMap fun v => if v.category = 2 then [v, am_un] else [v]
  l ++ List.replicate (n - l.length) am_un
def am_ldI (L : List Value) (i : Nat) (st : List Value) : Option (List Value) := match L[i]? with
  | some (.int x) => some (.int x :: st)
  | _ => none
def am_ldJ (L : List Value) (i : Nat) (st : List Value) : Option (List Value) := match L[i]? with
  | some (.long x) => some (.long x :: st)
  | _ => none
def am_ldD (L : List Value) (i : Nat) (st : List Value) : Option (List Value) := match L[i]? with
  | some (.double x) => some (.double x :: st)
  | _ => none
def am_isR : Value → Bool
  | .ref _ => true
  | .null => true
  | _ => false
def am_ldA (L : List Value) (i : Nat) (st : List Value) : Option (List Value) := match L[i]? with
  | some v => if am_isR v = true then some (v :: st) else none
  | _ => none
/-- what a static or a constant must be: 0 an int, 1 an object, 2 an object or null -/
def am_ty : Nat → Value → Bool
  | 0, .int _ => true
  | 1, .ref _ => true
  | 2, v => am_isR v
  | _, _ => false
/-- a number of the code: 2 for one below zero -/
def am_lit (r1 r2 : Nat) : Int32 := if r2 = 0 then Int32.ofNat r1 else -(Int32.ofNat r1)
def am_kill (km : List Nat) (L : List Value) : List Value := match km with
  | [] => L
  | km => L.mapIdx fun i v => if km.contains i = true then am_un else v
/-- instructions that touch the operand stack alone -/
def am_pure (x : Instr) (r1 r2 : Nat) (L st : List Value) (te : Nat → Value) : Option (List Value) := match x with
  | .aconst_null => some (.null :: st)
  | .iconst _ => some (.int (am_lit r1 r2) :: st)
  | .bipush _ => some (.int (am_lit r1 r2) :: st)
  | .sipush _ => some (.int (am_lit r1 r2) :: st)
  | .lconst n => some (.long (Int64.ofNat n) :: st)
  | .fconst n => if n = 0 then some (.float FP.fconst0 :: st) else none
  | .dconst n => if n = 0 then some (.double FP.dconst0 :: st) else none
  | .ldc _ => if r2 = 1 then (if am_ty 1 (te r1) = true then some (te r1 :: st) else none) else some (.int (am_lit r1 r2) :: st)
  | .ldc_w _ => if r2 = 1 then (if am_ty 1 (te r1) = true then some (te r1 :: st) else none) else some (.int (am_lit r1 r2) :: st)
  | .ldc2_w _ => some (.long (Int64.ofNat r1) :: st)
  | .getstatic _ => if am_ty r2 (te r1) = true then some (te r1 :: st) else none
  | .iload i => am_ldI L i st
  | .iload_n i => am_ldI L i st
  | .lload i => am_ldJ L i st
  | .lload_n i => am_ldJ L i st
  | .dload i => am_ldD L i st
  | .aload i => am_ldA L i st
  | .aload_n i => am_ldA L i st
  | .pop => (match st with | v :: r => if v.category = 1 then some r else none | _ => none)
  | .dup => (match st with | v :: r => if v.category = 1 then some (v :: v :: r) else none | _ => none)
  | .dup_x1 => (match st with | v :: w :: r => if v.category = 1 ∧ w.category = 1 then some (v :: w :: v :: r) else none | _ => none)
  | .dup2 => (match st with | v :: w :: r => if v.category = 1 ∧ w.category = 1 then some (v :: w :: v :: w :: r) else none | _ => none)
  | .iadd => (match st with | .int y :: .int x :: r => some (.int (x + y) :: r) | _ => none)
  | .isub => (match st with | .int y :: .int x :: r => some (.int (x - y) :: r) | _ => none)
  | .imul => (match st with | .int y :: .int x :: r => some (.int (x * y) :: r) | _ => none)
  | .iand => (match st with | .int y :: .int x :: r => some (.int (x &&& y) :: r) | _ => none)
  | .ishl => (match st with | .int y :: .int x :: r => some (.int (x <<< (y &&& 31)) :: r) | _ => none)
  | .ishr => (match st with | .int y :: .int x :: r => some (.int (x >>> (y &&& 31)) :: r) | _ => none)
  | .idiv => (match st with | .int y :: .int x :: r => if y = 0 then none else some (.int (x / y) :: r) | _ => none)
  | .irem => (match st with | .int y :: .int x :: r => if y = 0 then none else some (.int (x - x / y * y) :: r) | _ => none)
  | .ineg => (match st with | .int x :: r => some (.int (-x) :: r) | _ => none)
  | .i2c => (match st with | .int x :: r => some (.int (x.toUInt32 % 65536).toInt32 :: r) | _ => none)
  | .i2b => (match st with | .int x :: r => some (.int x.toInt8.toInt32 :: r) | _ => none)
  | .i2l => (match st with | .int x :: r => some (.long x.toInt64 :: r) | _ => none)
  | .l2i => (match st with | .long x :: r => some (.int x.toInt32 :: r) | _ => none)
  | .ladd => (match st with | .long y :: .long x :: r => some (.long (x + y) :: r) | _ => none)
  | .land => (match st with | .long y :: .long x :: r => some (.long (x &&& y) :: r) | _ => none)
  | .lor => (match st with | .long y :: .long x :: r => some (.long (x ||| y) :: r) | _ => none)
  | .lshl => (match st with | .int y :: .long x :: r => some (.long (x <<< (y.toInt64 &&& 63)) :: r) | _ => none)
  | .lshr => (match st with | .int y :: .long x :: r => some (.long (x >>> (y.toInt64 &&& 63)) :: r) | _ => none)
  | .lushr => (match st with | .int y :: .long x :: r => some (.long (x.toUInt64 >>> (y.toInt64.toUInt64 &&& Int64.toUInt64 63)).toInt64 :: r) | _ => none)
  | .lcmp => (match st with | .long y :: .long x :: r => some (.int (lg_cmp x y) :: r) | _ => none)
  | .i2f => (match st with | .int x :: r => some (.float (FP.i2f x) :: r) | _ => none)
  | .i2d => (match st with | .int x :: r => some (.double (FP.i2d x) :: r) | _ => none)
  | .fdiv => (match st with | .float y :: .float x :: r => if (FP.fdiv x y) &&& 0x7fffffff ≤ 0x7f800000 then some (.float (FP.fdiv x y) :: r) else none | _ => none)
  | .ddiv => (match st with | .double y :: .double x :: r => if (FP.ddiv x y) &&& 0x7fffffffffffffff ≤ 0x7ff0000000000000 then some (.double (FP.ddiv x y) :: r) else none | _ => none)
  | .f2d => (match st with | .float x :: r => if (FP.f2d x) &&& 0x7fffffffffffffff ≤ 0x7ff0000000000000 then some (.double (FP.f2d x) :: r) else none | _ => none)
  | .dcmp op => (match st with | .double y :: .double x :: r => some (.int (Op.cmpValue (FP.dcmp x y) op) :: r) | _ => none)
  | _ => none
/-- stores into locals -/
def am_store (x : Instr) (r1 r2 : Nat) (L st : List Value) : Option (List Value × List Value) := match x with
  | .istore i => (match st with | .int v :: r => if i < L.length then some (am_stL L i (.int v), r) else none | _ => none)
  | .istore_n i => (match st with | .int v :: r => if (i : Nat) < L.length then some (am_stL L i (.int v), r) else none | _ => none)
  | .lstore i => (match st with | .long v :: r => if i + 1 < L.length then some (am_stL L i (.long v), r) else none | _ => none)
  | .lstore_n i => (match st with | .long v :: r => if (i : Nat) + 1 < L.length then some (am_stL L i (.long v), r) else none | _ => none)
  | .dstore i => (match st with | .double v :: r => if i + 1 < L.length then some (am_stL L i (.double v), r) else none | _ => none)
  | .astore i => (match st with | v :: r => if am_isR v = true ∧ i < L.length then some (am_stL L i v, r) else none | _ => none)
  | .astore_n i => (match st with | v :: r => if am_isR v = true ∧ (i : Nat) < L.length then some (am_stL L i v, r) else none | _ => none)
  | .iinc i _ => (match L[i]? with | some (.int v) => some (am_stL L i (.int (v + am_lit r1 r2)), st) | _ => none)
  | _ => none
/-- jumps: where to, and the stack behind -/
def am_jump (x : Instr) (pc r1 : Nat) (st : List Value) : Option (Nat × List Value) := match x with
  | .goto _ => some (r1, st)
  | .ifCond c _ => (match st with
    | .int v :: r => (match c with
      | .eq => some (if v = 0 then r1 else pc + 3, r)
      | .ne => some (if v = 0 then pc + 3 else r1, r)
      | .lt => some (if v < 0 then r1 else pc + 3, r)
      | .ge => some (if 0 ≤ v then r1 else pc + 3, r)
      | .gt => some (if 0 < v then r1 else pc + 3, r)
      | .le => some (if v ≤ 0 then r1 else pc + 3, r))
    | _ => none)
  | .if_icmp c _ => (match st with
    | .int y :: .int v :: r => (match c with
      | .eq => some (if v = y then r1 else pc + 3, r)
      | .ne => some (if v = y then pc + 3 else r1, r)
      | .lt => some (if v < y then r1 else pc + 3, r)
      | .ge => some (if y ≤ v then r1 else pc + 3, r)
      | .gt => some (if y < v then r1 else pc + 3, r)
      | .le => some (if v ≤ y then r1 else pc + 3, r))
    | _ => none)
  | .ifnull _ => (match st with | .null :: r => some (r1, r) | .ref _ :: r => some (pc + 3, r) | _ => none)
  | .ifnonnull _ => (match st with | .null :: r => some (pc + 3, r) | .ref _ :: r => some (r1, r) | _ => none)
  | .if_acmp c _ => (match st with
    | y :: v :: r => if am_isR y = true ∧ am_isR v = true then (match c with
      | .eq => some (if v = y then r1 else pc + 3, r)
      | .ne => some (if v = y then pc + 3 else r1, r)) else none
    | _ => none)
  | .tableswitch d lo hi offs => (match st with
    | .int v :: r => if v.toInt < lo ∨ hi < v.toInt then some (((pc : Int) + d).toNat, r) else (match offs[(v.toInt - lo).toNat]? with | some o => some (((pc : Int) + o).toNat, r) | none => none)
    | _ => none)
  | .lookupswitch d ps => (match st with
    | .int v :: r => some (((pc : Int) + Op.lookupswitch.offset ps.toList d v.toInt).toNat, r)
    | _ => none)
  | _ => none
def am_getF (s : am_S) (a ci k : Nat) : Option Value := match s.1 a with
  | some (.inr (c, fs)) => if c = ci then fs[k]? else none
  | _ => none
def am_set (s : am_S) (a : Nat) (e : am_E) : am_S := (fun q => if q = a then some e else s.1 q, s.2)
def am_setF (s : am_S) (a k : Nat) (v : Value) : am_S := match s.1 a with
  | some (.inr (c, fs)) => am_set s a (.inr (c, fs.set k v))
  | _ => s
def am_new (s : am_S) (e : am_E) (n : Nat) : am_S := (fun q => if q = s.2.1 then some e else s.1 q, s.2.1 + 1, s.2.2.1 + n, s.2.2.2)
/-- an exception's cell: nothing is said of it -/
def am_bump (s : am_S) : am_S := (s.1, s.2.1 + 1, s.2.2.1 + 6, s.2.2.2)
def am_ia (s : am_S) (ty : FieldType) (a : Nat) : Option (Nat × (Nat → Int32)) := match s.1 a with
  | some (.inl (t, n, .inl f)) => if t = ty then some (n, f) else none
  | _ => none
def am_la (s : am_S) (a : Nat) : Option (Nat × (Nat → Int64)) := match s.1 a with
  | some (.inl (t, n, .inr (.inl f))) => if t = .long then some (n, f) else none
  | _ => none
def am_qa (s : am_S) (a : Nat) : Option (String × Nat × (Nat → Option Nat)) := match s.1 a with
  | some (.inl (.object C, n, .inr (.inr (.inr (.inr f))))) => some (C, n, f)
  | _ => none
def am_len (s : am_S) (a : Nat) : Option Nat := match s.1 a with
  | some (.inl (_, x)) => some x.1
  | _ => none
/-- an object's class, by its place -/
def am_cls (s : am_S) (a : Nat) : Option Nat := match s.1 a with
  | some (.inr (c, _)) => some c
  | _ => none
def am_inb (i : Int32) (n : Nat) : Bool := decide (0 ≤ i.toInt) && decide (i.toInt < n)
/-- an array of bytes or of booleans: baload and bastore serve both -/
def am_ba (s : am_S) (a : Nat) : Option (FieldType × Nat × (Nat → Int32)) := match s.1 a with
  | some (.inl (t, n, .inl f)) => if t = .byte ∨ t = .boolean then some (t, n, f) else none
  | _ => none
/-! the class table ct, the methods mt, B: the first address of our own -/
section AmHeap
variable (ct : List am_C)
/-- a field's value, of the field's type -/
def am_gf (s : am_S) (a ci k : Nat) : Option Value := match am_getF s a ci k, ct[ci]? with
  | some v, some c => if fits (c.2.2.2.1 k) v = true then some v else none
  | _, _ => none
def am_fld (ci k : Nat) : Option (FieldType × Bool) := match ct[ci]? with
  | some c => if k < c.2.2.1 ∧ c.2.2.2.2 = true then some (c.2.2.2.1 k, (c.2.1 k).2.2.2) else none
  | none => none
def am_dfl (ci : Nat) : List Value := match ct[ci]? with
  | some c => (List.range c.2.2.1).map fun k => defaultValue (c.2.2.2.1 k)
  | none => []
def am_put (M : am_M) (own : Nat) (s : am_S) (v : Value) (a ci k : Nat) : Option am_S := match am_fld ct ci k, am_cls s a with
  | some (ty, fin), some c => if c = ci ∧ own ≤ a ∧ fits ty v = true ∧ (fin = false ∨ am_kind M = 2) ∧ (am_getF s a ci k).isSome = true then some (am_setF s a k v) else none
  | _, _ => none
def am_heap (M : am_M) (B : Nat) (x : Instr) (r1 r2 : Nat) (st : List Value) (s : am_S) : Option (List Value × am_S) := match x with
  | .getfield _ => (match st with | .ref a :: r => (am_gf ct s a r1 r2).map fun v => (v :: r, s) | _ => none)
  | .putfield _ => (match st with | v :: .ref a :: r => (am_put ct M B s v a r1 r2).map fun s' => (r, s') | _ => none)
  | .arraylength => (match st with | .ref a :: r => (am_len s a).map fun n => (.int (Int32.ofNat n) :: r, s) | _ => none)
  | .iaload => (match st with
    | .int i :: .ref a :: r => (match am_ia s .int a with | some (n, f) => if am_inb i n = true then some (.int (f i.toInt.toNat) :: r, s) else none | none => none)
    | _ => none)
  | .iastore => (match st with
    | .int v :: .int i :: .ref a :: r => (match am_ia s .int a with | some (n, f) => if am_inb i n = true ∧ B ≤ a then some (r, am_set s a (.inl (.int, n, .inl (upd f i.toInt.toNat v)))) else none | none => none)
    | _ => none)
  | .baload => (match st with
    | .int i :: .ref a :: r => (match am_ba s a with | some (_, n, f) => if am_inb i n = true then some (.int (f i.toInt.toNat) :: r, s) else none | none => none)
    | _ => none)
  | .bastore => (match st with
    | .int v :: .int i :: .ref a :: r => (match am_ba s a with | some (t, n, f) => if am_inb i n = true ∧ B ≤ a then some (r, am_set s a (.inl (t, n, .inl (upd f i.toInt.toNat (vp_nar t v))))) else none | none => none)
    | _ => none)
  | .laload => (match st with
    | .int i :: .ref a :: r => (match am_la s a with | some (n, f) => if am_inb i n = true then some (.long (f i.toInt.toNat) :: r, s) else none | none => none)
    | _ => none)
  | .lastore => (match st with
    | .long v :: .int i :: .ref a :: r => (match am_la s a with | some (n, f) => if am_inb i n = true ∧ B ≤ a then some (r, am_set s a (.inl (.long, n, .inr (.inl (vp_updL f i.toInt.toNat v))))) else none | none => none)
    | _ => none)
  | .aaload => (match st with
    | .int i :: .ref a :: r => (match am_qa s a with | some (_, n, f) => if am_inb i n = true then some (va_rf (f i.toInt.toNat) :: r, s) else none | none => none)
    | _ => none)
  | .aastore => (match st with
    | .ref v :: .int i :: .ref a :: r => (match am_qa s a, am_cls s v with
      | some (C, n, f), some c => if am_inb i n = true ∧ B ≤ a ∧ (ct[c]?).map (fun q => q.1) = some C then some (r, am_set s a (.inl (.object C, n, .inr (.inr (.inr (.inr (va_up f i.toInt.toNat (some v)))))))) else none
      | _, _ => none)
    | _ => none)
  | .new _ => if r2 = 0 then some (.ref s.2.1 :: st, am_new s (.inr (r1, am_dfl ct r1)) (am_dfl ct r1).length) else none
  | .newarray t => (match st with
    | .int n :: r => if 0 ≤ n.toInt ∧ n.toInt ≤ 65536 ∧ (newarray.typeOf t = .int ∨ newarray.typeOf t = .byte ∨ newarray.typeOf t = .boolean) then some (.ref s.2.1 :: r, am_new s (.inl (newarray.typeOf t, n.toInt.toNat, .inl fun _ => 0)) n.toInt.toNat)
      else if 0 ≤ n.toInt ∧ n.toInt ≤ 65536 ∧ newarray.typeOf t = .long then some (.ref s.2.1 :: r, am_new s (.inl (.long, n.toInt.toNat, .inr (.inl fun _ => 0))) n.toInt.toNat) else none
    | _ => none)
  | .anewarray _ => (match st with
    | .int n :: r => (match ct[r1]? with
      | some c => if 0 ≤ n.toInt ∧ n.toInt ≤ 65536 then some (.ref s.2.1 :: r, am_new s (.inl (.object c.1, n.toInt.toNat, .inr (.inr (.inr (.inr fun _ => none))))) n.toInt.toNat) else none
      | none => none)
    | _ => none)
  | _ => none
end AmHeap
/-- System.arraycopy of ints or bytes -/
def am_cpy (B : Nat) (ty : FieldType) (st : List Value) (s : am_S) : Option (List Value × am_S) := match st with
  | .int n :: .int dp :: .ref d :: .int sp :: .ref a :: r => (match am_ia s ty a, am_ia s ty d with
    | some (n0, f), some (n1, g) => if 0 ≤ n.toInt ∧ 0 ≤ dp.toInt ∧ 0 ≤ sp.toInt ∧ sp.toInt.toNat + n.toInt.toNat ≤ n0 ∧ dp.toInt.toNat + n.toInt.toNat ≤ n1 ∧ B ≤ d ∧ am_w r ≤ 8 ∧ ((List.range n.toInt.toNat).all fun i => fits ty (.int (f (sp.toInt.toNat + i)))) = true then some (r, am_set s d (.inl (ty, n1, .inl (va_cpy f g sp.toInt.toNat dp.toInt.toNat n.toInt.toNat)))) else none
    | _, _ => none)
  | _ => none
/-- Math.max, min, abs of ints -/
def am_math (r2 : Nat) (st : List Value) : Option (List Value) := match st with
  | .int y :: r => if r2 = 49 ∧ am_w r ≤ 8 then some (.int (if 0 ≤ y then y else 0 - y) :: r) else (match r with
    | .int x :: r => if r2 = 29 ∧ am_w r ≤ 8 then some (.int (if x < y then y else x) :: r) else if r2 = 39 ∧ am_w r ≤ 8 then some (.int (if y < x then y else x) :: r) else none
    | _ => none)
  | _ => none
/-- the handler of a pc for a class of exceptions -/
def am_hand (E pc : Nat) : List (Nat × Nat × Nat × Nat × Nat) → Option Nat
  | [] => none
  | h :: t => if h.1 ≤ pc ∧ pc < h.2.1 ∧ h.2.2.2.2 = E then some h.2.2.1 else am_hand E pc t
/-- an exception comes out of a call: a handler begins by storing it, and what it stores is not looked at -/
def am_thr (M : am_M) (pc E : Nat) (L : List Value) (s : am_S) : Option am_T := match am_hh M with
  | [] => some (.inr (.inr E, s))
  | hh => match am_hand E pc hh with
    | some h => (match (am_code M).lookup h with
      | some (.astore_n i, _) => if (i : Nat) < L.length then some (.inl (h + 1, am_stL L i am_un, [], s)) else none
      | some (.astore i, _) => if i < L.length then some (.inl (h + 2, am_stL L i am_un, [], s)) else none
      | _ => none)
    | none => none
def am_ret (M : am_M) (x : Instr) (st : List Value) (s : am_S) : Option am_T := match x with
  | .return_ => (match st with | [] => if am_retT M = none then some (.inr (.inl none, s)) else none | _ => none)
  | .ireturn => (match st with | [.int v] => (match am_retT M with | some ty => if fits ty (.int v) = true then some (.inr (.inl (some (.int v)), s)) else none | none => none) | _ => none)
  | .lreturn => (match st with | [.long v] => if am_retT M = some .long then some (.inr (.inl (some (.long v)), s)) else none | _ => none)
  | .freturn => (match st with | [.float v] => if am_retT M = some .float then some (.inr (.inl (some (.float v)), s)) else none | _ => none)
  | .dreturn => (match st with | [.double v] => if am_retT M = some .double then some (.inr (.inl (some (.double v)), s)) else none | _ => none)
  | .areturn => (match st with | [v] => (match am_retT M with | some ty => if am_isR v = true ∧ fits ty v = true then some (.inr (.inl (some v), s)) else none | none => none) | _ => none)
  | _ => none
section AmRun
variable (ct : List am_C) (mt : List am_M) (B : Nat)
/-- how many arguments a method takes, its receiver with them: the second number of its hints -/
def am_nargs (M : am_M) : Nat := (am_hint M).headD 0
/-- the receiver's class is the one that the row names -/
def am_recv (s : am_S) (c : Nat) : Option Value → Bool
  | some (.ref a) => decide (am_cls s a = some c)
  | _ => false
def am_inv (call : Nat → List Value → am_S → Option (am_O × am_S)) (M : am_M) (pc k r2 : Nat) (L st : List Value) (s : am_S) : Option am_T := match mt[k]? with
  | some N => if am_nargs N ≤ st.length ∧ am_w (st.drop (am_nargs N)) ≤ 8 ∧ am_lev N < am_lev M ∧ (am_kind N = 0 ∨ am_recv s (r2 / 10) (st.take (am_nargs N)).getLast? = true) then
      (match call k (st.take (am_nargs N)).reverse s with
      | some (.inl v, s') => some (.inl (pc + 3, L, v.toList ++ st.drop (am_nargs N), s'))
      | some (.inr E, s') => am_thr M pc E L s'
      | none => none) else none
  | none => none
def am_ins (call : Nat → List Value → am_S → Option (am_O × am_S)) (M : am_M) (pc : Nat) (x : Instr) (len r1 r2 : Nat) (L st : List Value) (s : am_S) : Option am_T :=
  match am_pure x r1 r2 L st s.2.2.2 with
  | some st' => some (.inl (pc + len, L, st', s))
  | none => match am_store x r1 r2 L st with
    | some (L', st') => some (.inl (pc + len, L', st', s))
    | none => match am_jump x pc r1 st with
      | some (t, st') => some (.inl (t, L, st', s))
      | none => match am_heap ct M B x r1 r2 st s with
        | some (st', s') => some (.inl (pc + len, L, st', s'))
        | none => match am_ret M x st s with
          | some t => some t
          | none => match x with
            | .invokevirtual _ => am_inv mt call M pc r1 r2 L st s
            | .invokestatic _ => if r2 = 9 then (am_cpy B .int st s).map fun q => .inl (pc + 3, L, q.1, q.2) else if r2 = 19 then (am_cpy B .byte st s).map fun q => .inl (pc + 3, L, q.1, q.2) else if r2 = 29 ∨ r2 = 39 ∨ r2 = 49 then (am_math r2 st).map fun q => .inl (pc + 3, L, q, s) else am_inv mt call M pc r1 r2 L st s
            | .invokespecial _ => if r2 = 8 then (match st with | .ref _ :: r => if am_w r ≤ 8 then some (.inl (pc + 3, L, r, s)) else none | _ => none) else am_inv mt call M pc r1 r2 L st s
            | .new _ => if r2 = 1 ∧ st = [] ∧ am_hh M = [] then some (.inr (.inr r1, am_bump s)) else none
            | _ => none
def am_step (call : Nat → List Value → am_S → Option (am_O × am_S)) (M : am_M) (pc : Nat) (L st : List Value) (s : am_S) : Option am_T := match (am_code M).lookup pc with
  | some (x, len, r1, r2, _, km) => am_ins ct mt B call M pc x len r1 r2 (am_kill km L) st s
  | none => none
def am_loop (call : Nat → List Value → am_S → Option (am_O × am_S)) (M : am_M) : Nat → Nat → List Value → List Value → am_S → Option (am_O × am_S)
  | 0, _, _, _, _ => none
  | n + 1, pc, L, st, s => match am_step ct mt B call M pc L st s with
    | some (.inl (pc', L', st', s')) => am_loop call M n pc' L' st' s'
    | some (.inr o) => some o
    | none => none
def am_levOf (k : Nat) : Nat := match mt[k]? with
  | some M => am_lev M
  | none => 0
/-- a method's run: d bounds the levels below -/
def am_run (n : Nat) : Nat → Nat → List Value → am_S → Option (am_O × am_S)
  | 0, _, _, _ => none
  | d + 1, k, args, s => match mt[k]? with
    | some M => if am_lev M ≤ d + 1 ∧ (am_entry args (am_maxL M)).length = am_maxL M ∧ (args.all fun v => decide (v ≠ am_un)) = true then am_loop ct mt B (fun k' a' s' => am_run n d k' a' s') M n 0 (am_entry args (am_maxL M)) [] s else none
    | none => none
end AmRun
