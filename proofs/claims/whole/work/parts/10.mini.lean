/-! THE MINI MACHINE: a pure interpreter over a picture of the heap. References: .ref k is the k-th cell made since the law began; .retAddr n is an object that was there before (0: the script). -/
abbrev mm_Cell : Type := (Nat × List Value) ⊕ ((ArrayType × List Int32) ⊕ List Int64)
abbrev mm_Heap : Type := List mm_Cell
abbrev mm_Loc : Type := List (Option Value)
/-- a row: the instruction, its length, three numbers that the linking has laid beside it -/
abbrev mm_Row : Type := Instr × Nat × Nat × Nat × Nat
/-- a method: the number of its class, its name, bytes, locals, type, parameters, rows by their pc in chunks of 16 -/
abbrev mm_Meth : Type := Nat × MethodName × ByteArray × Nat × Option FieldType × Nat × List (List (Option mm_Row))
def mm_own (M : mm_Meth) : Nat := M.1
def mm_name (M : mm_Meth) : MethodName := M.2.1
def mm_bytes (M : mm_Meth) : ByteArray := M.2.2.1
def mm_maxL (M : mm_Meth) : Nat := M.2.2.2.1
def mm_ret (M : mm_Meth) : Option FieldType := M.2.2.2.2.1
def mm_par (M : mm_Meth) : Nat := M.2.2.2.2.2.1
def mm_rows (M : mm_Meth) : List (List (Option mm_Row)) := M.2.2.2.2.2.2
def mm_at (t : List (List (Option mm_Row))) (pc : Nat) : Option mm_Row := match t[pc / 16]? with
  | some ch => match ch[pc % 16]? with
    | some r => r
    | none => none
  | none => none
/-- the world of a run: a number of the program's tables -/
def mm_get (r : mm_Loc) (i : Nat) : Option Value := match r[i]? with
  | some v => v
  | none => none
def mm_kill (r : mm_Loc) (i : Nat) : mm_Loc := match i with
  | 0 => r
  | j + 1 => match r[j]? with
    | some (some (.long _)) => r.set j none
    | some (some (.double _)) => r.set j none
    | _ => r
def mm_put1 (r : mm_Loc) (i : Nat) (v : Value) : Option mm_Loc := bif Nat.blt i r.length then some ((mm_kill r i).set i (some v)) else none
def mm_put2 (r : mm_Loc) (i : Nat) (v : Value) : Option mm_Loc := bif Nat.blt (i + 1) r.length then some (((mm_kill r i).set i (some v)).set (i + 1) none) else none
def mm_in (i : Int32) (n : Nat) : Bool := !(decide (i < 0)) && Nat.blt i.toNatClampNeg n
def mm_ii (st : List Value) (f : Int32 → Int32 → Option Value) : Option (List Value) := match st with
  | .int y :: .int x :: r => match f x y with
    | some v => some (v :: r)
    | none => none
  | _ => none
def mm_jj (st : List Value) (f : Int64 → Int64 → Option Value) : Option (List Value) := match st with
  | .long y :: .long x :: r => match f x y with
    | some v => some (v :: r)
    | none => none
  | _ => none
def mm_i (st : List Value) (f : Int32 → Value) : Option (List Value) := match st with
  | .int x :: r => some (f x :: r)
  | _ => none
def mm_j (st : List Value) (f : Int64 → Value) : Option (List Value) := match st with
  | .long x :: r => some (f x :: r)
  | _ => none
/-- a field's type, by its number: 0 int, 1 boolean, 2 byte, 3 long, 4 a reference -/
def mm_fit (c : Nat) (v : Value) : Bool := match c, v with
  | 0, .int _ => true
  | 1, .int x => decide (x = 0) || decide (x = 1)
  | 2, .int x => decide (-128 ≤ x) && decide (x ≤ 127)
  | 3, .long _ => true
  | 4, .ref _ => true
  | 4, .null => true
  | 4, .retAddr _ => true
  | _, _ => false
def mm_def (c : Nat) : Value := match c with
  | 0 => .int 0
  | 1 => .int 0
  | 2 => .int 0
  | 3 => .long 0
  | _ => .null
/-- what is there before the law begins, and read alone: the script (nothing, or 0 and its ints); the bytes of the String constants; the classes' fields (type numbers) -/
abbrev mm_Old : Type := List Int32 × List (List Int32) × List (List Nat)
def mm_arr (t : ArrayType) (n : Nat) : Option mm_Cell := match t with
  | .int => some (.inr (.inl (.int, List.replicate n 0)))
  | .byte => some (.inr (.inl (.byte, List.replicate n 0)))
  | .boolean => some (.inr (.inl (.boolean, List.replicate n 0)))
  | .long => some (.inr (.inr (List.replicate n 0)))
  | _ => none
def mm_tag (t : ArrayType) : Bool := match t with
  | .int => true
  | .byte => true
  | .boolean => true
  | _ => false
def mm_len (O : mm_Old) (h : mm_Heap) (v : Value) : Option Int32 := match v with
  | .ref k => match h[k]? with
    | some (.inr (.inl (ty, xs))) => bif mm_tag ty then some (Int32.ofNat xs.length) else none
    | some (.inr (.inr xs)) => some (Int32.ofNat xs.length)
    | _ => none
  | .retAddr n => match n with
    | 0 => match O.1 with
      | [] => none
      | _ :: xs => some (Int32.ofNat xs.length)
    | k + 1 => bif Nat.blt k 100 then none else match O.2.1[k - 100]? with
      | some xs => some (Int32.ofNat xs.length)
      | none => none
  | _ => none
def mm_iald (O : mm_Old) (h : mm_Heap) (v : Value) (i : Int32) : Option Int32 := match v with
  | .ref k => match h[k]? with
    | some (.inr (.inl (.int, xs))) => bif mm_in i xs.length then some (xs.getD i.toNatClampNeg 0) else none
    | _ => none
  | .retAddr n => match O.1 with
    | [] => none
    | _ :: xs => bif Nat.beq n 0 && mm_in i xs.length then some (xs.getD i.toNatClampNeg 0) else none
  | _ => none
def mm_bald (O : mm_Old) (h : mm_Heap) (v : Value) (i : Int32) : Option Int32 := match v with
  | .ref k => match h[k]? with
    | some (.inr (.inl (.byte, xs))) => bif mm_in i xs.length then some (xs.getD i.toNatClampNeg 0) else none
    | some (.inr (.inl (.boolean, xs))) => bif mm_in i xs.length then some (xs.getD i.toNatClampNeg 0) else none
    | _ => none
  | .retAddr n => bif Nat.blt n 101 then none else match O.2.1[n - 101]? with
    | some xs => bif mm_in i xs.length then some (xs.getD i.toNatClampNeg 0) else none
    | none => none
  | _ => none
def mm_lald (h : mm_Heap) (v : Value) (i : Int32) : Option Int64 := match v with
  | .ref k => match h[k]? with
    | some (.inr (.inr xs)) => bif mm_in i xs.length then some (xs.getD i.toNatClampNeg 0) else none
    | _ => none
  | _ => none
def mm_iast (h : mm_Heap) (v : Value) (i x : Int32) : Option mm_Heap := match v with
  | .ref k => match h[k]? with
    | some (.inr (.inl (.int, xs))) => bif mm_in i xs.length then some (h.set k (.inr (.inl (.int, xs.set i.toNatClampNeg x)))) else none
    | _ => none
  | _ => none
def mm_bast (h : mm_Heap) (v : Value) (i x : Int32) : Option mm_Heap := match v with
  | .ref k => match h[k]? with
    | some (.inr (.inl (.byte, xs))) => bif mm_in i xs.length then some (h.set k (.inr (.inl (.byte, xs.set i.toNatClampNeg (vp_nar .byte x))))) else none
    | some (.inr (.inl (.boolean, xs))) => bif mm_in i xs.length then some (h.set k (.inr (.inl (.boolean, xs.set i.toNatClampNeg (vp_nar .boolean x))))) else none
    | _ => none
  | _ => none
def mm_last (h : mm_Heap) (v : Value) (i : Int32) (x : Int64) : Option mm_Heap := match v with
  | .ref k => match h[k]? with
    | some (.inr (.inr xs)) => bif mm_in i xs.length then some (h.set k (.inr (.inr (xs.set i.toNatClampNeg x)))) else none
    | _ => none
  | _ => none
def mm_getf (O : mm_Old) (h : mm_Heap) (v : Value) (a b : Nat) : Option Value := match v with
  | .ref k => match h[k]? with
    | some (.inl o) => bif Nat.beq o.1 a then o.2[b]? else none
    | _ => none
  | .retAddr n => match n with
    | 0 => none
    | j + 1 => bif Nat.beq a 20 && Nat.blt j O.2.1.length then (bif Nat.beq b 0 then some (.retAddr (j + 101)) else some (.int 0)) else none
  | _ => none
def mm_putf (h : mm_Heap) (v : Value) (a b c : Nat) (x : Value) : Option mm_Heap := match v with
  | .ref k => match h[k]? with
    | some (.inl o) => bif Nat.beq o.1 a && (mm_fit (c % 8) x && Nat.blt b o.2.length) then some (h.set k (.inl (o.1, o.2.set b x))) else none
    | _ => none
  | _ => none
/-- System.arraycopy of a row of ints or of longs into another one -/
def mm_splice {α : Type} (f g : List α) (sp dp n : Nat) : List α := g.take dp ++ ((f.drop sp).take n ++ g.drop (dp + n))
def mm_copy (h : mm_Heap) (v w : Value) (sp dp n : Int32) : Option mm_Heap := match v, w with
  | .ref k, .ref j => match h[k]?, h[j]? with
    | some (.inr (.inl (.int, f))), some (.inr (.inl (.int, g))) => bif !(decide (sp < 0)) && (!(decide (dp < 0)) && (!(decide (n < 0)) && (Nat.ble (sp.toNatClampNeg + n.toNatClampNeg) f.length && Nat.ble (dp.toNatClampNeg + n.toNatClampNeg) g.length))) then some (h.set j (.inr (.inl (.int, mm_splice f g sp.toNatClampNeg dp.toNatClampNeg n.toNatClampNeg)))) else none
    | some (.inr (.inr f)), some (.inr (.inr g)) => bif !(decide (sp < 0)) && (!(decide (dp < 0)) && (!(decide (n < 0)) && (Nat.ble (sp.toNatClampNeg + n.toNatClampNeg) f.length && Nat.ble (dp.toNatClampNeg + n.toNatClampNeg) g.length))) then some (h.set j (.inr (.inr (mm_splice f g sp.toNatClampNeg dp.toNatClampNeg n.toNatClampNeg)))) else none
    | _, _ => none
  | _, _ => none
/-- the instructions that neither jump nor call nor end -/
def mm_step (O : mm_Old) (w : mm_Row) (pc : Nat) (r : mm_Loc) (st : List Value) (h : mm_Heap) : Option (mm_Loc × List Value × mm_Heap) := match w.1 with
  | .iconst n => some (r, .int (Int32.ofInt n) :: st, h)
  | .bipush n => some (r, .int (Int8.ofInt n).toInt32 :: st, h)
  | .sipush n => some (r, .int (Int16.ofInt n).toInt32 :: st, h)
  | .lconst n => some (r, .long (Int64.ofNat n) :: st, h)
  | .iload i => match mm_get r i with
    | some (.int x) => some (r, .int x :: st, h)
    | _ => none
  | .iload_n i => match mm_get r i with
    | some (.int x) => some (r, .int x :: st, h)
    | _ => none
  | .lload i => match mm_get r i with
    | some (.long x) => some (r, .long x :: st, h)
    | _ => none
  | .lload_n i => match mm_get r i with
    | some (.long x) => some (r, .long x :: st, h)
    | _ => none
  | .aload i => match mm_get r i with
    | some (.ref x) => some (r, .ref x :: st, h)
    | some (.retAddr x) => some (r, .retAddr x :: st, h)
    | _ => none
  | .aload_n i => match mm_get r i with
    | some (.ref x) => some (r, .ref x :: st, h)
    | some (.retAddr x) => some (r, .retAddr x :: st, h)
    | _ => none
  | .istore i => match st with
    | .int x :: t => (mm_put1 r i (.int x)).map fun r' => (r', t, h)
    | _ => none
  | .istore_n i => match st with
    | .int x :: t => (mm_put1 r i (.int x)).map fun r' => (r', t, h)
    | _ => none
  | .lstore i => match st with
    | .long x :: t => (mm_put2 r i (.long x)).map fun r' => (r', t, h)
    | _ => none
  | .lstore_n i => match st with
    | .long x :: t => (mm_put2 r i (.long x)).map fun r' => (r', t, h)
    | _ => none
  | .astore i => match st with
    | .ref x :: t => (mm_put1 r i (.ref x)).map fun r' => (r', t, h)
    | .retAddr x :: t => (mm_put1 r i (.retAddr x)).map fun r' => (r', t, h)
    | _ => none
  | .astore_n i => match st with
    | .ref x :: t => (mm_put1 r i (.ref x)).map fun r' => (r', t, h)
    | .retAddr x :: t => (mm_put1 r i (.retAddr x)).map fun r' => (r', t, h)
    | _ => none
  | .iinc i n => match mm_get r i with
    | some (.int x) => (mm_put1 r i (.int (x + Int32.ofInt n))).map fun r' => (r', st, h)
    | _ => none
  | .iadd => (mm_ii st fun x y => some (.int (x + y))).map fun t => (r, t, h)
  | .isub => (mm_ii st fun x y => some (.int (x - y))).map fun t => (r, t, h)
  | .imul => (mm_ii st fun x y => some (.int (x * y))).map fun t => (r, t, h)
  | .iand => (mm_ii st fun x y => some (.int (x &&& y))).map fun t => (r, t, h)
  | .ior => (mm_ii st fun x y => some (.int (x ||| y))).map fun t => (r, t, h)
  | .ixor => (mm_ii st fun x y => some (.int (x ^^^ y))).map fun t => (r, t, h)
  | .idiv => (mm_ii st fun x y => bif decide (y = 0) then none else some (.int (x / y))).map fun t => (r, t, h)
  | .irem => (mm_ii st fun x y => bif decide (y = 0) then none else some (.int (x - x / y * y))).map fun t => (r, t, h)
  | .ishl => (mm_ii st fun x y => some (.int (x <<< (y &&& 31)))).map fun t => (r, t, h)
  | .ishr => (mm_ii st fun x y => some (.int (x >>> (y &&& 31)))).map fun t => (r, t, h)
  | .iushr => (mm_ii st fun x y => some (.int (x.toUInt32 >>> (y.toUInt32 &&& Int32.toUInt32 31)).toInt32)).map fun t => (r, t, h)
  | .i2c => (mm_i st fun x => .int (x.toUInt32 % 65536).toInt32).map fun t => (r, t, h)
  | .ineg => (mm_i st fun x => .int (-x)).map fun t => (r, t, h)
  | .i2l => (mm_i st fun x => .long x.toInt64).map fun t => (r, t, h)
  | .i2b => (mm_i st fun x => .int x.toInt8.toInt32).map fun t => (r, t, h)
  | .l2i => (mm_j st fun x => .int x.toInt32).map fun t => (r, t, h)
  | .lneg => (mm_j st fun x => .long (-x)).map fun t => (r, t, h)
  | .ladd => (mm_jj st fun x y => some (.long (x + y))).map fun t => (r, t, h)
  | .lsub => (mm_jj st fun x y => some (.long (x - y))).map fun t => (r, t, h)
  | .lmul => (mm_jj st fun x y => some (.long (x * y))).map fun t => (r, t, h)
  | .land => (mm_jj st fun x y => some (.long (x &&& y))).map fun t => (r, t, h)
  | .ldiv => (mm_jj st fun x y => bif decide (y = 0) then none else some (.long (x / y))).map fun t => (r, t, h)
  | .lrem => (mm_jj st fun x y => bif decide (y = 0) then none else some (.long (x - x / y * y))).map fun t => (r, t, h)
  | .lcmp => (mm_jj st fun x y => some (.int (lg_cmp x y))).map fun t => (r, t, h)
  | .dup => match st with
    | v :: t => bif Nat.beq v.category 1 then some (r, v :: v :: t, h) else none
    | _ => none
  | .pop => match st with
    | v :: t => bif Nat.beq v.category 1 then some (r, t, h) else none
    | _ => none
  | .dup2 => match st with
    | v :: t => bif Nat.beq v.category 2 then some (r, v :: v :: t, h) else match t with
      | u :: t' => bif Nat.beq v.category 1 && Nat.beq u.category 1 then some (r, v :: u :: v :: u :: t', h) else none
      | _ => none
    | _ => none
  | .getfield _ => match st with
    | v :: t => (mm_getf O h v w.2.2.1 w.2.2.2.1).map fun x => (r, x :: t, h)
    | _ => none
  | .putfield _ => match st with
    | x :: v :: t => (mm_putf h v w.2.2.1 w.2.2.2.1 w.2.2.2.2 x).map fun h' => (r, t, h')
    | _ => none
  | .arraylength => match st with
    | v :: t => (mm_len O h v).map fun x => (r, .int x :: t, h)
    | _ => none
  | .iaload => match st with
    | .int i :: v :: t => (mm_iald O h v i).map fun x => (r, .int x :: t, h)
    | _ => none
  | .baload => match st with
    | .int i :: v :: t => (mm_bald O h v i).map fun x => (r, .int x :: t, h)
    | _ => none
  | .laload => match st with
    | .int i :: v :: t => (mm_lald h v i).map fun x => (r, .long x :: t, h)
    | _ => none
  | .iastore => match st with
    | .int x :: .int i :: v :: t => (mm_iast h v i x).map fun h' => (r, t, h')
    | _ => none
  | .bastore => match st with
    | .int x :: .int i :: v :: t => (mm_bast h v i x).map fun h' => (r, t, h')
    | _ => none
  | .lastore => match st with
    | .long x :: .int i :: v :: t => (mm_last h v i x).map fun h' => (r, t, h')
    | _ => none
  | .newarray a => match st with
    | .int n :: t => bif decide (n < 0) || Nat.blt 60000000 n.toNatClampNeg then none else (mm_arr a n.toNatClampNeg).map fun c => (r, .ref h.length :: t, h ++ [c])
    | _ => none
  | .new _ => match O.2.2[w.2.2.1]? with
    | some fs => bif Nat.blt w.2.2.1 13 then some (r, .ref h.length :: st, h ++ [.inl (w.2.2.1, fs.map mm_def)]) else none
    | none => none
  | .getstatic _ => bif Nat.beq w.2.2.1 0 then some (r, .int 1 :: st, h) else some (r, .float 0 :: st, h)
  | .ldc _ => bif Nat.beq w.2.2.2.1 0 then some (r, .int (Int32.ofNat w.2.2.1) :: st, h) else bif Nat.blt w.2.2.1 O.2.1.length then some (r, .retAddr (w.2.2.1 + 1) :: st, h) else none
  | .ldc_w _ => bif Nat.beq w.2.2.2.1 0 then some (r, .int (Int32.ofNat w.2.2.1) :: st, h) else none
  | .ldc2_w _ => some (r, .long (Int64.ofNat w.2.2.1) :: st, h)
  | _ => none
def mm_len1 (i : Instr) : Nat := match i with
  | .bipush _ => 2
  | .sipush _ => 3
  | .iload _ => 2
  | .lload _ => 2
  | .aload _ => 2
  | .istore _ => 2
  | .lstore _ => 2
  | .astore _ => 2
  | .iinc _ _ => 3
  | .getfield _ => 3
  | .getstatic _ => 3
  | .putfield _ => 3
  | .newarray _ => 2
  | .new _ => 3
  | .ldc _ => 2
  | .ldc_w _ => 3
  | .ldc2_w _ => 3
  | _ => 1
def mm_cmp (c : Jvm.ClassFile.Cond) (x y : Int32) : Bool := match c with
  | .eq => decide (x = y)
  | .ne => decide (¬ x = y)
  | .lt => decide (x < y)
  | .ge => decide (y ≤ x)
  | .gt => decide (y < x)
  | .le => decide (x ≤ y)
def mm_words (st : List Value) : Nat := (st.map fun v => v.category).sum
def mm_sl (vs : List Value) : mm_Loc := vs.flatMap fun v => bif Nat.beq v.category 2 then [some v, none] else [some v]
def mm_entry (n : Nat) (vs : List Value) : mm_Loc := mm_sl vs ++ List.replicate (n - (mm_sl vs).length) none
def mm_tgt (pc : Nat) (off : Int) : Option Nat := if 0 ≤ (pc : Int) + off then some ((pc : Int) + off).toNat else none
def mm_tsw (pc : Nat) (d lo hi : Int) (offs : Array Int) (x : Int32) : Option Nat :=
  if x.toInt < lo then mm_tgt pc d else if hi < x.toInt then mm_tgt pc d else match offs.toList[(x.toInt - lo).toNat]? with
    | some o => mm_tgt pc o
    | none => none
def mm_lsw (pc : Nat) (d : Int) (ps : Array (Int × Int)) (x : Int32) : Option Nat := mm_tgt pc (Op.lookupswitch.offset ps.toList d x.toInt)
def mm_rcv (O : mm_Old) (h : mm_Heap) (v : Value) (own : Nat) : Bool := match v with
  | .ref k => match h[k]? with
    | some (.inl o) => Nat.beq o.1 own
    | _ => false
  | .retAddr n => match n with
    | 0 => false
    | j + 1 => Nat.beq own 20 && Nat.blt j O.2.1.length
  | _ => false
/-- what a method of this type may return -/
def mm_rfit (ty : Option FieldType) (x : Int32) : Bool := match ty with
  | some .int => true
  | some .boolean => decide (x = 0) || decide (x = 1)
  | some .byte => decide (-128 ≤ x) && decide (x ≤ 127)
  | some .char => decide (0 ≤ x) && decide (x ≤ 65535)
  | _ => false
/-- a callee's answer is pushed: not where it has thrown -/
def mm_val (v : Option Value) : Option (List Value) := match v with
  | some (.retAddr _) => none
  | some w => some [w]
  | none => some []
abbrev mm_Res : Type := Option Value
/-- Math's max, min, abs: 0 max, 1 min of ints, 2 max, 3 min, 4 abs of longs -/
def mm_math (a : Nat) (st : List Value) : Option (List Value) := match a, st with
  | 0, .int y :: .int x :: t => some (.int (if x < y then y else x) :: t)
  | 1, .int y :: .int x :: t => some (.int (if y < x then y else x) :: t)
  | 2, .long y :: .long x :: t => some (.long (if y < x then x else y) :: t)
  | 3, .long y :: .long x :: t => some (.long (if y < x then y else x) :: t)
  | 4, .long x :: t => some (.long (if 0 < x then x else -x) :: t)
  | _, _ => none
/-- an instruction that makes a cell -/
def mm_isNew (i : Instr) : Bool := match i with
  | .newarray _ => true
  | .new _ => true
  | _ => false
/-- n: fuel; d: frames that may still be laid; g: how many exceptions have been made (cells of which nothing is said) -/
def mm_body (P : Nat → Option mm_Meth) (O : mm_Old) (go : Nat → mm_Meth → Nat → mm_Loc → List Value → mm_Heap → Nat → Option (mm_Res × mm_Heap × Nat)) (d : Nat) (M : mm_Meth) (pc : Nat) (r : mm_Loc) (st : List Value) (h : mm_Heap) (g : Nat) : Option (mm_Res × mm_Heap × Nat) := match mm_at (mm_rows M) pc with
    | none => none
    | some w => match w.1 with
      | .goto _ => go d M w.2.2.1 r st h g
      | .if_icmp c _ => match st with
        | .int y :: .int x :: t => bif mm_cmp c x y then go d M w.2.2.1 r t h g else go d M (pc + 3) r t h g
        | _ => none
      | .ifCond c _ => match st with
        | .int x :: t => bif mm_cmp c x 0 then go d M w.2.2.1 r t h g else go d M (pc + 3) r t h g
        | _ => none
      | .tableswitch df lo hi offs => match st with
        | .int x :: t => match mm_tsw pc df lo hi offs x with
          | some q => go d M q r t h g
          | none => none
        | _ => none
      | .lookupswitch df ps => match st with
        | .int x :: t => match mm_lsw pc df ps x with
          | some q => go d M q r t h g
          | none => none
        | _ => none
      | .ireturn => match st with
        | [.int x] => bif mm_rfit (mm_ret M) x then some (some (.int x), h, g) else none
        | _ => none
      | .lreturn => match st with
        | [.long x] => some (some (.long x), h, g)
        | _ => none
      | .return_ => match st with
        | [] => some (none, h, g)
        | _ => none
      | .invokevirtual _ => match P w.2.2.1, d with
        | some N, d' + 1 => match st.drop (mm_par N) with
          | v0 :: t => bif Nat.ble (mm_words t) 8 && (Nat.beq (st.take (mm_par N)).length (mm_par N) && (Nat.ble (mm_sl (v0 :: (st.take (mm_par N)).reverse)).length (mm_maxL N) && mm_rcv O h v0 (mm_own N))) then match go d' N 0 (mm_entry (mm_maxL N) (v0 :: (st.take (mm_par N)).reverse)) [] h g with
              | some (v, h', g') => match mm_val v with
                | some vs => go d M (pc + 3) r (vs ++ t) h' g'
                | none => none
              | none => none else none
          | _ => none
        | _, _ => none
      | .invokestatic _ => bif Nat.beq w.2.2.2.1 0 then match P w.2.2.1, d with
        | some N, d' + 1 => bif Nat.ble (mm_words (st.drop (mm_par N))) 8 && (Nat.beq (st.take (mm_par N)).length (mm_par N) && Nat.ble (mm_sl (st.take (mm_par N)).reverse).length (mm_maxL N)) then match go d' N 0 (mm_entry (mm_maxL N) (st.take (mm_par N)).reverse) [] h g with
            | some (v, h', g') => match mm_val v with
              | some vs => go d M (pc + 3) r (vs ++ st.drop (mm_par N)) h' g'
              | none => none
            | none => none else none
        | _, _ => none else bif Nat.beq w.2.2.2.1 2 then match P w.2.2.1, d with
        | some N, d' + 1 + 1 => match st with
          | .ref o :: .int p1 :: .int p0 :: .ref x :: t => bif Nat.ble (mm_words t) 8 && (Nat.beq (mm_par N) 2 && (Nat.ble 3 (mm_maxL N) && mm_rcv O h (.ref x) (mm_own N))) then match go d' N 0 (mm_entry (mm_maxL N) [.ref x, .int p0, .int p1]) [] h g with
            | some (some (.int y), h1, g1) => match mm_last h1 (.ref o) 0 y.toInt64 with
              | some h2 => go d M (pc + 3) r (.int 0 :: t) h2 g1
              | none => none
            | some (some (.retAddr q), h1, g1) => go d M (pc + 3) r (.int (bif Nat.beq q 13 then 1 else 2) :: t) h1 g1
            | _ => none else none
          | _ => none
        | _, _ => none else bif Nat.beq w.2.2.2.1 3 then match mm_math w.2.2.1 st with
          | some st' => bif Nat.ble (mm_words st') 10 && Nat.ble 1 d then go d M (pc + 3) r st' h g else none
          | none => none else match st with
          | .int n :: .int dp :: w' :: .int sp :: v :: t => bif Nat.ble (mm_words t) 8 && Nat.ble 1 d then match mm_copy h v w' sp dp n with
            | some h' => go d M (pc + 3) r t h' g
            | none => none else none
          | _ => none
      | .invokespecial _ => bif Nat.beq w.2.2.2.1 0 then match st with
          | .ref k :: t => bif Nat.ble (mm_words t) 8 && Nat.ble 1 d then go d M (pc + 3) r t h g else none
          | _ => none else match P w.2.2.1, d with
        | some N, d' + 1 => match st.drop (mm_par N) with
          | .ref k :: t => bif Nat.ble (mm_words t) 8 && (Nat.beq (st.take (mm_par N)).length (mm_par N) && Nat.ble (mm_sl (.ref k :: (st.take (mm_par N)).reverse)).length (mm_maxL N)) then match go d' N 0 (mm_entry (mm_maxL N) (.ref k :: (st.take (mm_par N)).reverse)) [] h g with
              | some (v, h', g') => match mm_val v with
                | some vs => go d M (pc + 3) r (vs ++ t) h' g'
                | none => none
              | none => none else none
          | _ => none
        | _, _ => none
      | .new _ => bif Nat.beq w.2.2.2.1 1 then match st with
          | [] => bif Nat.ble 6 d then some (some (.retAddr w.2.2.1), h, g + 1) else none
          | _ => none else bif Nat.beq g 0 then match mm_step O w pc r st h with
        | some (r', st', h') => go d M (pc + 3) r' st' h' g
        | none => none else none
      | _ => bif mm_isNew w.1 && !(Nat.beq g 0) then none else match mm_step O w pc r st h with
        | some (r', st', h') => go d M (pc + mm_len1 w.1) r' st' h' g
        | none => none
def mm_run (P : Nat → Option mm_Meth) (O : mm_Old) (n : Nat) : Nat → mm_Meth → Nat → mm_Loc → List Value → mm_Heap → Nat → Option (mm_Res × mm_Heap × Nat) :=
  Nat.rec (fun _ _ _ _ _ _ _ => none) (fun _ go => mm_body P O go) n
theorem mm_run_succ (P : Nat → Option mm_Meth) (O : mm_Old) (n d : Nat) (M : mm_Meth) (pc : Nat) (r : mm_Loc) (st : List Value) (h : mm_Heap) (g : Nat) : mm_run P O (n + 1) d M pc r st h g = mm_body P O (mm_run P O n) d M pc r st h g := rfl
