/-! THE SMALL MACHINE: pure, deterministic, over a list of cells. A reference is a place in it; from 1000 on: read-only things (the script, static arrays, the text constant). -/
abbrev mAux : Type := Nat × Nat × Nat × Int
abbrev mIns : Type := Nat × Instr × Nat × mAux
abbrev mMeth : Type := MethodName × ByteArray × Nat × Option FieldType × List mIns × List (Nat × Nat × Nat × Nat × String)
abbrev mCell : Type := (Nat × Nat × (Nat → Value)) ⊕ (Nat × List Value)
abbrev mMem : Type := List mCell
/-- methods; the types of a class's fields; read-only arrays; names of exceptions -/
abbrev mEnv : Type := (Nat → Option mMeth) × (Nat → List FieldType) × (Nat → Option (Nat × Nat × (Nat → Value))) × (Nat → String)
abbrev mLs : Type := List (Nat × Value)
abbrev mSt : Type := Nat × mLs × List Value × mMem
abbrev mRes : Type := (String ⊕ Option Value) × mMem × Nat × Nat
def mst1 (ls : mLs) (i : Nat) (v : Value) : mLs := (i, v) :: ls.filter (fun q => !(q.1 == i) && !(q.1 + 1 == i && q.2.category == 2))
def mst2 (ls : mLs) (i : Nat) (v : Value) : mLs := (i, v) :: ls.filter (fun q => !(q.1 == i) && (!(q.1 == i + 1) && !(q.1 + 1 == i && q.2.category == 2)))
def mld : mLs → Nat → Option Value
  | [], _ => none
  | q :: l, i => if q.1 = i then some q.2 else mld l i
/-- the types of arrays by their numbers -/
def mTy : Nat → FieldType
  | 0 => .int
  | 1 => .long
  | _ => .byte
def marr (E : mEnv) (mem : mMem) (a : Nat) : Option (Nat × Nat × (Nat → Value)) :=
  if a < 1000 then (match mem[a]? with | some (.inl x) => some x | _ => none) else E.2.2.1 a
def mup (f : Nat → Value) (k : Nat) (v : Value) : Nat → Value := fun j => if j = k then v else f j
def mIn (i : Int32) (n : Nat) : Bool := !(decide (i < 0) || decide (n ≤ i.toNatClampNeg))
def mtgt (pc : Nat) (off : Int) : Option Nat := if 0 ≤ (pc : Int) + off then some ((pc : Int) + off).toNat else none
def mcond (c : Jvm.ClassFile.Cond) (x y : Int32) : Bool := match c with
  | .eq => decide (x = y)
  | .ne => !decide (x = y)
  | .lt => decide (x < y)
  | .ge => decide (y ≤ x)
  | .gt => decide (y < x)
  | .le => decide (x ≤ y)
/-- int operations of two -/
def mbin (i : Instr) (x y : Int32) : Option Int32 := match i with
  | .iadd => some (x + y)
  | .isub => some (x - y)
  | .imul => some (x * y)
  | .iand => some (x &&& y)
  | .ior => some (x ||| y)
  | .ixor => some (x ^^^ y)
  | .ishl => some (x <<< (y &&& 31))
  | .ishr => some (x >>> (y &&& 31))
  | .iushr => some ((x.toUInt32 >>> (y.toUInt32 &&& Int32.toUInt32 31)).toInt32)
  | .idiv => if y = 0 then none else some (x / y)
  | .irem => if y = 0 then none else some (x - x / y * y)
  | _ => none
/-- long operations of two -/
def mbinL (i : Instr) (x y : Int64) : Option Int64 := match i with
  | .ladd => some (x + y)
  | .lsub => some (x - y)
  | .lmul => some (x * y)
  | .land => some (x &&& y)
  | .lor => some (x ||| y)
  | _ => none
/-- int operations of one -/
def mun (i : Instr) (x : Int32) : Option Int32 := match i with
  | .ineg => some (-x)
  | .i2b => some (x.toInt8.toInt32)
  | .i2c => some ((x.toUInt32 % 65536).toInt32)
  | _ => none
/-- a constant's push: the value and the length of the instruction -/
def mpush (q : mIns) : Option (Value × Nat) := match q.2.1 with
  | .iconst n => some (.int (Int32.ofInt n), 1)
  | .bipush n => some (.int (Int8.ofInt n).toInt32, 2)
  | .sipush n => some (.int (Int16.ofInt n).toInt32, 3)
  | .lconst n => some (.long (Int64.ofNat (n : Nat)), 1)
  | .ldc _ => if q.2.2.2.1 = 0 then some (.int (Int32.ofInt q.2.2.2.2.2.2), 2) else some (.ref q.2.2.2.2.1, 2)
  | .ldc_w _ => if q.2.2.2.1 = 0 then some (.int (Int32.ofInt q.2.2.2.2.2.2), 3) else some (.ref q.2.2.2.2.1, 3)
  | .ldc2_w _ => some (.long (Int64.ofInt q.2.2.2.2.2.2), 3)
  | .getstatic _ => if q.2.2.2.1 = 0 then some (.ref q.2.2.2.2.1, 3) else some (.long (Int64.ofInt q.2.2.2.2.2.2), 3)
  | _ => none
/-- a load of a local: its place, its kind (0 int, 1 long, 2 reference), the length -/
def mload (i : Instr) : Option (Nat × Nat × Nat) := match i with
  | .iload_n k => some ((k : Nat), 0, 1)
  | .iload k => some (k, 0, 2)
  | .lload_n k => some ((k : Nat), 1, 1)
  | .lload k => some (k, 1, 2)
  | .aload_n k => some ((k : Nat), 2, 1)
  | .aload k => some (k, 2, 2)
  | _ => none
def mstore (i : Instr) : Option (Nat × Nat × Nat) := match i with
  | .istore_n k => some ((k : Nat), 0, 1)
  | .istore k => some (k, 0, 2)
  | .lstore_n k => some ((k : Nat), 1, 1)
  | .lstore k => some (k, 1, 2)
  | .astore_n k => some ((k : Nat), 2, 1)
  | .astore k => some (k, 2, 2)
  | _ => none
def mkind (k : Nat) (v : Value) : Bool := match v with
  | .int _ => k == 0
  | .long _ => k == 1
  | .ref _ => k == 2
  | _ => false
/-- a value of this field may be put so -/
def mfit (ty : FieldType) (v : Value) : Bool := decide (narrow ty v = v) && fits ty v
/-- pushes, loads, stores, arithmetic -/
def mdef (nL : Nat) (q : mIns) (pc : Nat) (ls : mLs) (st : List Value) (mem : mMem) : Option mSt :=
  match mpush q with
    | some (v, k) => some (pc + k, ls, v :: st, mem)
    | none => match mload q.2.1 with
      | some (j, kd, k) => match mld ls j with
        | some v => if mkind kd v then some (pc + k, ls, v :: st, mem) else none
        | none => none
      | none => match mstore q.2.1 with
        | some (j, kd, k) => match st with
          | v :: r => if mkind kd v && decide (j + 1 < nL ∨ (j < nL ∧ kd ≠ 1)) then some (pc + k, if kd = 1 then mst2 ls j v else mst1 ls j v, r, mem) else none
          | [] => none
        | none => match st with
          | .int y :: .int x :: r => match mbin q.2.1 x y with
            | some z => some (pc + 1, ls, .int z :: r, mem)
            | none => match mun q.2.1 y with
              | some z => some (pc + 1, ls, .int z :: .int x :: r, mem)
              | none => none
          | .int x :: r => match mun q.2.1 x with
            | some z => some (pc + 1, ls, .int z :: r, mem)
            | none => none
          | .long y :: .long x :: r => match mbinL q.2.1 x y with
            | some z => some (pc + 1, ls, .long z :: r, mem)
            | none => none
          | _ => none
/-- what is neither call nor end: the state behind it -/
def mplain (E : mEnv) (nL : Nat) (q : mIns) (pc : Nat) (ls : mLs) (st : List Value) (mem : mMem) : Option mSt :=
  match q.2.1 with
  | .goto off => match mtgt pc off with
    | some t => some (t, ls, st, mem)
    | none => none
  | .ifCond c off => match st with
    | .int x :: r => match mtgt pc off with
      | some t => if mcond c x 0 then some (t, ls, r, mem) else some (pc + 3, ls, r, mem)
      | none => none
    | _ => none
  | .if_icmp c off => match st with
    | .int y :: .int x :: r => match mtgt pc off with
      | some t => if mcond c x y then some (t, ls, r, mem) else some (pc + 3, ls, r, mem)
      | none => none
    | _ => none
  | .iinc i n => match mld ls i with
    | some (.int x) => if i < nL then some (pc + 3, mst1 ls i (.int (x + Int32.ofInt n)), st, mem) else none
    | _ => none
  | .i2l => match st with
    | .int x :: r => some (pc + 1, ls, .long x.toInt64 :: r, mem)
    | _ => none
  | .l2i => match st with
    | .long x :: r => some (pc + 1, ls, .int x.toInt32 :: r, mem)
    | _ => none
  | .lcmp => match st with
    | .long y :: .long x :: r => some (pc + 1, ls, .int (lg_cmp x y) :: r, mem)
    | _ => none
  | .dup => match st with
    | v :: r => if v.category = 1 then some (pc + 1, ls, v :: v :: r, mem) else none
    | _ => none
  | .dup_x1 => match st with
    | v :: w :: r => if v.category = 1 ∧ w.category = 1 then some (pc + 1, ls, v :: w :: v :: r, mem) else none
    | _ => none
  | .dup2 => match st with
    | v :: w :: r => if v.category = 1 ∧ w.category = 1 then some (pc + 1, ls, v :: w :: v :: w :: r, mem) else none
    | _ => none
  | .pop => match st with
    | v :: r => if v.category = 1 then some (pc + 1, ls, r, mem) else none
    | _ => none
  | .pop2 => match st with
    | v :: r => if v.category = 2 then some (pc + 1, ls, r, mem) else none
    | _ => none
  | .tableswitch d lo hi offs => match st with
    | .int x :: r => if x.toInt < lo ∨ hi < x.toInt then (mtgt pc d).map (fun t => (t, ls, r, mem)) else
        match offs[(x.toInt - lo).toNat]? with
        | some off => (mtgt pc off).map (fun t => (t, ls, r, mem))
        | none => none
    | _ => none
  | .lookupswitch d ps => match st with
    | .int x :: r => if (ps.toList.zip (ps.toList.drop 1)).all (fun (a, next) => a.1 < next.1) = true then (mtgt pc (Op.lookupswitch.offset ps.toList d x.toInt)).map (fun t => (t, ls, r, mem)) else none
    | _ => none
  | .arraylength => match st with
    | .ref a :: r => match marr E mem a with
      | some (t, n, _) => if t < 3 then some (pc + 1, ls, .int (Int32.ofNat n) :: r, mem) else none
      | none => none
    | _ => none
  | .iaload => match st with
    | .int i :: .ref a :: r => match marr E mem a with
      | some (0, n, f) => if mIn i n then (match f i.toNatClampNeg with | .int x => some (pc + 1, ls, .int x :: r, mem) | _ => none) else none
      | _ => none
    | _ => none
  | .laload => match st with
    | .int i :: .ref a :: r => match marr E mem a with
      | some (1, n, f) => if mIn i n then (match f i.toNatClampNeg with | .long x => some (pc + 1, ls, .long x :: r, mem) | _ => none) else none
      | _ => none
    | _ => none
  | .baload => match st with
    | .int i :: .ref a :: r => match marr E mem a with
      | some (2, n, f) => if mIn i n then (match f i.toNatClampNeg with | .int x => some (pc + 1, ls, .int x :: r, mem) | _ => none) else none
      | _ => none
    | _ => none
  | .iastore => match st with
    | .int x :: .int i :: .ref a :: r => match mem[a]? with
      | some (.inl (0, n, f)) => if mIn i n then some (pc + 1, ls, r, mem.set a (.inl (0, n, mup f i.toNatClampNeg (.int x)))) else none
      | _ => none
    | _ => none
  | .lastore => match st with
    | .long x :: .int i :: .ref a :: r => match mem[a]? with
      | some (.inl (1, n, f)) => if mIn i n then some (pc + 1, ls, r, mem.set a (.inl (1, n, mup f i.toNatClampNeg (.long x)))) else none
      | _ => none
    | _ => none
  | .bastore => match st with
    | .int x :: .int i :: .ref a :: r => match mem[a]? with
      | some (.inl (2, n, f)) => if mIn i n then some (pc + 1, ls, r, mem.set a (.inl (2, n, mup f i.toNatClampNeg (.int x.toInt8.toInt32)))) else none
      | _ => none
    | _ => none
  | .getfield _ => match st with
    | .ref a :: r => match mem[a]? with
      | some (.inr (ci, fs)) => if ci = q.2.2.2.2.1 then (match fs[q.2.2.2.2.2.1]? with
          | some v => if mkind 0 v || mkind 1 v || mkind 2 v then some (pc + 3, ls, v :: r, mem) else none
          | none => none) else none
      | _ => none
    | _ => none
  | .putfield _ => match st with
    | v :: .ref a :: r => match mem[a]? with
      | some (.inr (ci, fs)) => if ci = q.2.2.2.2.1 then (match (E.2.1 ci)[q.2.2.2.2.2.1]? with
          | some ty => if mfit ty v && (mkind 0 v || mkind 1 v || mkind 2 v) && decide (q.2.2.2.2.2.1 < fs.length) then some (pc + 3, ls, r, mem.set a (.inr (ci, fs.set q.2.2.2.2.2.1 v))) else none
          | none => none) else none
      | _ => none
    | _ => none
  | _ => mdef nL q pc ls st mem
/-- what makes a cell: the length, the stack, the memory, how many slots -/
def malloc (E : mEnv) (q : mIns) (st : List Value) (mem : mMem) : Option (Nat × List Value × mMem × Nat) :=
  match q.2.1 with
  | .newarray t => match st with
    | .int n :: r => if n < 0 ∨ 100000 < n.toNatClampNeg then none else match t with
      | .int => some (2, .ref mem.length :: r, mem ++ [.inl (0, n.toNatClampNeg, fun _ => .int 0)], n.toNatClampNeg)
      | .long => some (2, .ref mem.length :: r, mem ++ [.inl (1, n.toNatClampNeg, fun _ => .long 0)], n.toNatClampNeg)
      | .byte => some (2, .ref mem.length :: r, mem ++ [.inl (2, n.toNatClampNeg, fun _ => .int 0)], n.toNatClampNeg)
      | _ => none
    | _ => none
  | .new _ => some (3, .ref mem.length :: st, mem ++ [.inr (q.2.2.2.2.1, (E.2.1 q.2.2.2.2.1).map defaultValue)], (E.2.1 q.2.2.2.2.1).length)
  | _ => none
/-- calls that are done at once: Object.<init>, a text's length and sign, System.arraycopy -/
def mprim (E : mEnv) (kind : Nat) (st : List Value) (mem : mMem) : Option (List Value × mMem) := match kind with
  | 1 => match st with
    | .ref _ :: r => some (r, mem)
    | _ => none
  | 2 => match st with
    | .ref a :: r => if a < 1000 then none else match E.2.2.1 a with
      | some (3, n, _) => some (.int (Int32.ofNat n) :: r, mem)
      | _ => none
    | _ => none
  | 3 => match st with
    | .int i :: .ref a :: r => if a < 1000 then none else match E.2.2.1 a with
      | some (3, n, f) => if mIn i n then (match f i.toNatClampNeg with | .int x => some (.int x :: r, mem) | _ => none) else none
      | _ => none
    | _ => none
  | 4 => match st with
    | .int n :: .int dp :: .ref d :: .int sp :: .ref a :: r => match mem[a]?, mem[d]? with
      | some (.inl (t, N, f)), some (.inl (t', N', g)) => if t = t' ∧ t < 2 ∧ a ≠ d ∧ ¬ n < 0 ∧ ¬ sp < 0 ∧ ¬ dp < 0 ∧ sp.toNatClampNeg + n.toNatClampNeg ≤ N ∧ dp.toNatClampNeg + n.toNatClampNeg ≤ N'
          then some (r, mem.set d (.inl (t', N', va_cpy f g sp.toNatClampNeg dp.toNatClampNeg n.toNatClampNeg))) else none
      | _, _ => none
    | _ => none
  | _ => none
/-- where an exception is caught: behind the astore of the handler -/
def mcatch (M : mMeth) (pc : Nat) (X : String) : Option (Nat × Nat) :=
  match M.2.2.2.2.2.find? (fun h => decide (h.1 ≤ pc) && decide (pc < h.2.1) && decide (h.2.2.2.2 = X)) with
  | none => none
  | some h => match M.2.2.2.2.1.find? (fun q => q.1 == h.2.2.1) with
    | some q => match mstore q.2.1 with
      | some (j, 2, k) => some (j, h.2.2.1 + k)
      | _ => none
    | none => none
/-- the words of locals that values take -/
def mcat (vs : List Value) : Nat := (vs.map fun v => v.category).sum
/-- the receiver of a call by 'invokevirtual': its class -/
def mrecv (q : mIns) (vs : List Value) (mem : mMem) : Bool := match q.2.1 with
  | .invokevirtual _ => match vs with
    | .ref a :: _ => match mem[a]? with
      | some (.inr (ci, _)) => ci == q.2.2.2.2.2.2.toNat
      | _ => false
    | _ => false
  | .invokestatic _ => true
  | .invokespecial _ => match vs with
    | .ref _ :: _ => true
    | _ => false
  | _ => false
/-- d: calls that may nest; n: steps -/
def mrun (E : mEnv) : Nat → Nat → Nat → Nat → mLs → List Value → mMem → Nat → Nat → Option mRes
  | 0, _, _, _, _, _, _, _, _ => none
  | n + 1, d, mi, pc, ls, st, mem, nc, ns =>
    match E.1 mi with
    | none => none
    | some M => match M.2.2.2.2.1.find? (fun q => q.1 == pc) with
      | none => none
      | some q =>
        if q.2.2.2.1 = 9 then
          -- a call: the callee, how many values it takes
          match d, E.1 q.2.2.2.2.1 with
          | d + 1, some M' =>
            if st.length < q.2.2.2.2.2.1 ∨ 8 < mcat (st.drop q.2.2.2.2.2.1) ∨ M'.2.2.1 < mcat (st.take q.2.2.2.2.2.1) ∨ mrecv q (st.take q.2.2.2.2.2.1).reverse mem = false then none else
            match mrun E n d q.2.2.2.2.1 0 (lv_args 0 (st.take q.2.2.2.2.2.1).reverse) [] mem nc ns with
            | none => none
            | some (.inr v, mem', nc', ns') => mrun E n (d + 1) mi (pc + 3) ls (v.toList ++ st.drop q.2.2.2.2.2.1) mem' nc' ns'
            | some (.inl X, mem', nc', ns') => match mcatch M pc X with
              | none => if M.2.2.2.2.2.isEmpty then some (.inl X, mem', nc', ns') else none
              | some (j, pc') => if j < M.2.2.1 then mrun E n (d + 1) mi pc' (ls.filter (fun q => !(q.1 == j) && !(q.1 + 1 == j && q.2.category == 2))) [] mem' nc' ns' else none
          | _, _ => none
        else if q.2.2.2.1 = 8 then
          -- throw new X("..")
          if M.2.2.2.2.2.isEmpty ∧ 8 ≤ d ∧ mcat st ≤ 8 then some (.inl (E.2.2.2 q.2.2.2.2.1), mem, nc + 1, ns + 6) else none
        else if q.2.2.2.1 = 7 then
          if d < 8 ∨ 8 < mcat st then none else
          match mprim E q.2.2.2.2.1 st mem with
          | some (st', mem') => mrun E n d mi (pc + 3) ls st' mem' nc ns
          | none => none
        else match q.2.1, st with
          | .return_, [] => if M.2.2.2.1 = none then some (.inr none, mem, nc, ns) else none
          | .ireturn, [.int x] => match M.2.2.2.1 with
            | some ty => if narrow ty (.int x) = .int x ∧ fits ty (.int x) = true then some (.inr (some (.int x)), mem, nc, ns) else none
            | none => none
          | .lreturn, [.long x] => if M.2.2.2.1 = some .long then some (.inr (some (.long x)), mem, nc, ns) else none
          | _, _ => match mplain E M.2.2.1 q pc ls st mem with
            | some (pc', ls', st', mem') => mrun E n d mi pc' ls' st' mem' nc ns
            | none => if 1000 ≤ mem.length + 1 then none else match malloc E q st mem with
              | some (k, st', mem', ms) => mrun E n d mi (pc + k) ls st' mem' (nc + 1) (ns + ms)
              | none => none
