/-! A SMALL MACHINE OF MY OWN over a heap of numbered cells: what it answers, the real one answers (parts 02 and on). Cells 0, 1, .. are those that the law's run makes, in their order; cells from 1000000 on are read only (the script, a static array, String constants). -/
abbrev ZE : Type := (FieldType × vp_A) ⊕ (Nat × List Value)
/-- how many cells, how many slots, the cells -/
abbrev ZH : Type := Nat × Nat × (Nat → ZE)
/-- classes of which there are arrays; links to nest mates' fields -/
abbrev ZO : Type := List String × List (String × Nat × String × String × String × String)
abbrev ZL : Type := List (Nat × Value)
/-- pc, instruction, its length, a number (a local's place, a target, a field, a callee), a value (a constant; a field's kind) -/
abbrev ZI : Type := Nat × Instr × Nat × Nat × Value
/-- name, class number, bytes, locals, what it returns, how many parameters, its instructions -/
abbrev ZM : Type := MethodName × Nat × ByteArray × Nat × Option FieldType × Nat × List ZI
def zz_cats (vs : List Value) : Nat := (vs.map fun v => v.category).sum
def zz_junk : ZE := .inr (999, [])
def zz_look (x : Nat → ZE) (h : ZH) (a : Nat) : ZE := if a < 1000000 then h.2.2 a else x a
def zz_put (h : ZH) (a : Nat) (e : ZE) : ZH := (h.1, h.2.1, va_up h.2.2 a e)
def zz_add (h : ZH) (n : Nat) (e : ZE) : ZH := (h.1 + 1, h.2.1 + n, va_up h.2.2 h.1 e)
def zz_get (ls : ZL) (i : Nat) : Option Value := (ls.find? (fun q => q.1 == i)).map (fun q => q.2)
def zz_set1 (ls : ZL) (i : Nat) (v : Value) : ZL := (i, v) :: ls.filter (fun q => !(q.1 == i) && !(q.1 + 1 == i && q.2.category == 2))
def zz_set2 (ls : ZL) (i : Nat) (v : Value) : ZL := (i, v) :: ls.filter (fun q => !(q.1 == i) && (!(q.1 == i + 1) && !(q.1 + 1 == i && q.2.category == 2)))
def zz_holds (c : ClassFile.Cond) (x y : Int32) : Bool := match c with
  | .eq => decide (x = y)
  | .ne => decide (¬ x = y)
  | .lt => decide (x < y)
  | .ge => decide (y ≤ x)
  | .gt => decide (y < x)
  | .le => decide (x ≤ y)
def zz_i2 (f : Int32 → Int32 → Int32) (st : List Value) : Option (List Value) := match st with
  | .int y :: .int x :: r => some (.int (f x y) :: r)
  | _ => none
def zz_l2 (f : Int64 → Int64 → Int64) (st : List Value) : Option (List Value) := match st with
  | .long y :: .long x :: r => some (.long (f x y) :: r)
  | _ => none
def zz_i2d (f : Int32 → Int32 → Int32) (st : List Value) : Option (List Value) := match st with
  | .int y :: .int x :: r => if y = 0 then none else some (.int (f x y) :: r)
  | _ => none
def zz_l2d (f : Int64 → Int64 → Int64) (st : List Value) : Option (List Value) := match st with
  | .long y :: .long x :: r => if y = 0 then none else some (.long (f x y) :: r)
  | _ => none
def zz_iun (f : Int32 → Value) (st : List Value) : Option (List Value) := match st with
  | .int x :: r => some (f x :: r)
  | _ => none
/-- instructions that move the operand stack alone -/
def zz_S (ins : Instr) (st : List Value) : Option (List Value) := match ins with
  | .iadd => zz_i2 (fun x y => x + y) st
  | .isub => zz_i2 (fun x y => x - y) st
  | .imul => zz_i2 (fun x y => x * y) st
  | .iand => zz_i2 (fun x y => x &&& y) st
  | .ior => zz_i2 (fun x y => x ||| y) st
  | .ixor => zz_i2 (fun x y => x ^^^ y) st
  | .ishl => zz_i2 (fun x y => x <<< (y &&& 31)) st
  | .ishr => zz_i2 (fun x y => x >>> (y &&& 31)) st
  | .iushr => zz_i2 (fun x y => (x.toUInt32 >>> (y.toUInt32 &&& Int32.toUInt32 31)).toInt32) st
  | .idiv => zz_i2d (fun x y => x / y) st
  | .irem => zz_i2d (fun x y => x - x / y * y) st
  | .ladd => zz_l2 (fun x y => x + y) st
  | .lsub => zz_l2 (fun x y => x - y) st
  | .lmul => zz_l2 (fun x y => x * y) st
  | .land => zz_l2 (fun x y => x &&& y) st
  | .lor => zz_l2 (fun x y => x ||| y) st
  | .ldiv => zz_l2d (fun x y => x / y) st
  | .lrem => zz_l2d (fun x y => x - x / y * y) st
  | .lshl => (match st with
    | .int y :: .long x :: r => some (.long (x <<< (y.toInt64 &&& 63)) :: r)
    | _ => none)
  | .lcmp => (match st with
    | .long y :: .long x :: r => some (.int (lg_cmp x y) :: r)
    | _ => none)
  | .l2i => (match st with
    | .long x :: r => some (.int x.toInt32 :: r)
    | _ => none)
  | .i2l => zz_iun (fun x => .long x.toInt64) st
  | .i2b => zz_iun (fun x => .int x.toInt8.toInt32) st
  | .i2c => zz_iun (fun x => .int (x.toUInt32 % 65536).toInt32) st
  | .dup => (match st with
    | v :: r => if v.category = 1 then some (v :: v :: r) else none
    | _ => none)
  | .dup2 => (match st with
    | v :: w :: r => if v.category = 1 ∧ w.category = 1 then some (v :: w :: v :: w :: r) else none
    | _ => none)
  | .pop => (match st with
    | v :: r => if v.category = 1 then some r else none
    | _ => none)
  | _ => none
/-- a switch's target -/
def zz_sw (pc : Nat) (d lo hi : Int) (offs : Array Int) (v : Int32) : Option Nat :=
  if v.toInt < lo ∨ hi < v.toInt then (if 0 ≤ (pc : Int) + d then some ((pc : Int) + d).toNat else none)
  else match offs[(v.toInt - lo).toNat]? with
    | some o => if 0 ≤ (pc : Int) + o then some ((pc : Int) + o).toNat else none
    | none => none
/-- instructions that don't touch the heap -/
def zz_A (pc : Nat) (ins : Instr) (len aux : Nat) (cv : Value) (ls : ZL) (st : List Value) : Option (Nat × ZL × List Value) := match ins with
  | .iconst _ | .bipush _ | .sipush _ | .lconst _ | .ldc _ | .ldc_w _ | .ldc2_w _ | .aconst_null | .getstatic _ => some (pc + len, ls, cv :: st)
  | .iload_n _ | .iload _ => (match zz_get ls aux with
    | some (.int v) => some (pc + len, ls, .int v :: st)
    | _ => none)
  | .lload_n _ | .lload _ => (match zz_get ls aux with
    | some (.long v) => some (pc + len, ls, .long v :: st)
    | _ => none)
  | .aload_n _ | .aload _ => (match zz_get ls aux with
    | some (.ref v) => some (pc + len, ls, .ref v :: st)
    | some .null => some (pc + len, ls, .null :: st)
    | _ => none)
  | .istore_n _ | .istore _ => (match st with
    | .int v :: r => some (pc + len, zz_set1 ls aux (.int v), r)
    | _ => none)
  | .lstore_n _ | .lstore _ => (match st with
    | .long v :: r => some (pc + len, zz_set2 ls aux (.long v), r)
    | _ => none)
  | .astore_n _ | .astore _ => (match st with
    | .ref v :: r => some (pc + len, zz_set1 ls aux (.ref v), r)
    | .null :: r => some (pc + len, zz_set1 ls aux .null, r)
    | _ => none)
  | .iinc _ _ => (match zz_get ls aux, cv with
    | some (.int v), .int d => some (pc + len, zz_set1 ls aux (.int (v + d)), st)
    | _, _ => none)
  | .goto _ => some (aux, ls, st)
  | .ifCond c _ => (match st with
    | .int v :: r => some (if zz_holds c v 0 = true then aux else pc + len, ls, r)
    | _ => none)
  | .if_icmp c _ => (match st with
    | .int y :: .int x :: r => some (if zz_holds c x y = true then aux else pc + len, ls, r)
    | _ => none)
  | .ifnull _ => (match st with
    | .ref a :: r => if a < 1000000 then some (pc + len, ls, r) else none
    | .null :: r => some (aux, ls, r)
    | _ => none)
  | .tableswitch d lo hi offs => (match st with
    | .int v :: r => (zz_sw pc d lo hi offs v).map (fun t => (t, ls, r))
    | _ => none)
  | ins => (zz_S ins st).map (fun st' => (pc + len, ls, st'))
/-- instructions that read the heap -/
def zz_B (x : Nat → ZE) (h : ZH) (ins : Instr) (aux : Nat) (st : List Value) : Option (List Value) := match ins with
  | .getfield _ => (match st with
    | .ref a :: r => (match zz_look x h a with
      | .inr (ci, fs) => if ci = aux / 100 then (fs[aux % 100]?).map (fun v => v :: r) else none
      | _ => none)
    | _ => none)
  | .iaload => (match st with
    | .int i :: .ref a :: r => (match zz_look x h a with
      | .inl (ty, n, .inl f) => if (ty = .int ∨ ty = .array .int) ∧ 0 ≤ i ∧ i.toNatClampNeg < n then some (.int (f i.toNatClampNeg) :: r) else none
      | _ => none)
    | _ => none)
  | .baload => (match st with
    | .int i :: .ref a :: r => (match zz_look x h a with
      | .inl (ty, n, .inl f) => if (ty = .byte ∨ ty = .boolean ∨ ty = .array .byte) ∧ 0 ≤ i ∧ i.toNatClampNeg < n then some (.int (f i.toNatClampNeg) :: r) else none
      | _ => none)
    | _ => none)
  | .laload => (match st with
    | .int i :: .ref a :: r => (match zz_look x h a with
      | .inl (ty, n, .inr (.inl f)) => if ty = .long ∧ 0 ≤ i ∧ i.toNatClampNeg < n then some (.long (f i.toNatClampNeg) :: r) else none
      | _ => none)
    | _ => none)
  | .aaload => (match st with
    | .int i :: .ref a :: r => (match zz_look x h a with
      | .inl (.object _, n, .inr (.inr (.inr (.inr f)))) => if 0 ≤ i ∧ i.toNatClampNeg < n then (match f i.toNatClampNeg with
        | some k => if k < 1000000 then some (.ref k :: r) else none
        | none => some (.null :: r)) else none
      | _ => none)
    | _ => none)
  | .arraylength => (match st with
    | .ref a :: r => (match zz_look x h a with
      | .inl (_, n, _) => some (.int (Int32.ofNat n) :: r)
      | _ => none)
    | _ => none)
  | _ => none
/-- what a field of a kind takes: .int 0 an int, .int 1 a boolean, .long a long, .null a reference -/
def zz_fit (k v : Value) : Bool := match k, v with
  | .int t, .int b => t == 0 || (t == 1 && (b == 0 || b == 1))
  | .long _, .long _ => true
  | .null, .ref _ => true
  | .null, .null => true
  | _, _ => false
/-- instructions that write one cell: the stack, the cell's number, the cell -/
def zz_C (nm : Nat → Option String) (h : ZH) (ins : Instr) (aux : Nat) (cv : Value) (st : List Value) : Option (List Value × Nat × ZE) := match ins with
  | .putfield _ => (match st with
    | v :: .ref a :: r => (match h.2.2 a with
      | .inr (ci, fs) => if ci = aux / 100 ∧ aux % 100 < fs.length ∧ zz_fit cv v = true then some (r, a, .inr (ci, fs.set (aux % 100) v)) else none
      | _ => none)
    | _ => none)
  | .iastore => (match st with
    | .int v :: .int i :: .ref a :: r => (match h.2.2 a with
      | .inl (ty, n, .inl f) => if ty = .int ∧ 0 ≤ i ∧ i.toNatClampNeg < n then some (r, a, .inl (.int, n, .inl (upd f i.toNatClampNeg v))) else none
      | _ => none)
    | _ => none)
  | .bastore => (match st with
    | .int v :: .int i :: .ref a :: r => (match h.2.2 a with
      | .inl (ty, n, .inl f) => if (ty = .byte ∨ ty = .boolean) ∧ 0 ≤ i ∧ i.toNatClampNeg < n then some (r, a, .inl (ty, n, .inl (upd f i.toNatClampNeg (vp_nar ty v)))) else none
      | _ => none)
    | _ => none)
  | .lastore => (match st with
    | .long v :: .int i :: .ref a :: r => (match h.2.2 a with
      | .inl (ty, n, .inr (.inl f)) => if ty = .long ∧ 0 ≤ i ∧ i.toNatClampNeg < n then some (r, a, .inl (.long, n, .inr (.inl (vp_updL f i.toNatClampNeg v)))) else none
      | _ => none)
    | _ => none)
  | .aastore => (match st with
    | .ref v :: .int i :: .ref a :: r => (match h.2.2 a, h.2.2 v with
      | .inl (.object C, n, .inr (.inr (.inr (.inr f)))), .inr (ci, _) => if nm ci = some C ∧ 0 ≤ i ∧ i.toNatClampNeg < n ∧ v < 1000000 then some (r, a, .inl (.object C, n, .inr (.inr (.inr (.inr (va_up f i.toNatClampNeg (some v))))))) else none
      | _, _ => none)
    | _ => none)
  | .invokestatic _ => (match st with
    | .int n :: .int dp :: .ref a :: .int sp :: .ref a0 :: r => (match h.2.2 a0, h.2.2 a with
      | .inl (t0, n0, .inl f), .inl (t1, n1, .inl g) => if t0 = .int ∧ t1 = .int ∧ ¬ sp < 0 ∧ ¬ dp < 0 ∧ ¬ n < 0 ∧ sp.toNatClampNeg + n.toNatClampNeg ≤ n0 ∧ dp.toNatClampNeg + n.toNatClampNeg ≤ n1 ∧ zz_cats r ≤ 8 then some (r, a, .inl (.int, n1, .inl (va_cpy f g sp.toNatClampNeg dp.toNatClampNeg n.toNatClampNeg))) else none
      | _, _ => none)
    | _ => none)
  | _ => none
/-- instructions that make a cell: the stack below, its slots, the cell -/
def zz_D (nm : Nat → Option String) (df : Nat → List Value) (ins : Instr) (aux : Nat) (st : List Value) : Option (List Value × Nat × ZE) := match ins with
  | .new _ => some (st, (df aux).length, .inr (aux, df aux))
  | .newarray ty => (match st with
    | .int n :: r => if 0 ≤ n ∧ n.toNatClampNeg ≤ 100000 then (match ty with
      | .int => some (r, n.toNatClampNeg, .inl (.int, n.toNatClampNeg, .inl (fun _ => 0)))
      | .byte => some (r, n.toNatClampNeg, .inl (.byte, n.toNatClampNeg, .inl (fun _ => 0)))
      | .boolean => some (r, n.toNatClampNeg, .inl (.boolean, n.toNatClampNeg, .inl (fun _ => 0)))
      | .long => some (r, n.toNatClampNeg, .inl (.long, n.toNatClampNeg, .inr (.inl (fun _ => 0))))
      | _ => none) else none
    | _ => none)
  | .anewarray _ => (match st with
    | .int n :: r => (match nm aux with
      | some C => if 0 ≤ n ∧ n.toNatClampNeg ≤ 100000 then some (r, n.toNatClampNeg, .inl (.object C, n.toNatClampNeg, .inr (.inr (.inr (.inr (fun _ => none)))))) else none
      | none => none)
    | _ => none)
  | _ => none
/-- an end: the answer -/
def zz_R (ret : Option FieldType) (ins : Instr) (st : List Value) : Option (Option Value) := match ins with
  | .ireturn => (match st, ret with
    | [.int v], some .int => some (some (.int v))
    | [.int v], some .boolean => if v = 0 ∨ v = 1 then some (some (.int v)) else none
    | [.int v], some .char => if (v.toUInt32 % 65536).toInt32 = v then some (some (.int v)) else none
    | [.int v], some .byte => if v.toInt8.toInt32 = v then some (some (.int v)) else none
    | _, _ => none)
  | .lreturn => (match st, ret with
    | [.long v], some .long => some (some (.long v))
    | _, _ => none)
  | .areturn => (match st, ret with
    | [.ref a], some (.object _) => if a < 1000000 then some (some (.ref a)) else none
    | _, _ => none)
  | .return_ => (match st, ret with
    | [], none => some none
    | _, _ => none)
  | _ => none
/-- a call: all arguments (the receiver first), what is left on the stack -/
def zz_F (x : Nat → ZE) (h : ZH) (ins : Instr) (c : ZM) (st : List Value) : Option (List Value × List Value) := match ins with
  | .invokestatic _ => if c.2.2.2.2.2.1 ≤ st.length ∧ zz_cats (st.drop c.2.2.2.2.2.1) ≤ 8 ∧ zz_cats (st.take c.2.2.2.2.2.1) ≤ c.2.2.2.1 then some ((st.take c.2.2.2.2.2.1).reverse, st.drop c.2.2.2.2.2.1) else none
  | .invokevirtual _ | .invokespecial _ => (match st.drop c.2.2.2.2.2.1 with
    | .ref b :: r => (match zz_look x h b with
      | .inr (ci, _) => if ci = c.2.1 ∧ zz_cats r ≤ 8 ∧ 1 + zz_cats (st.take c.2.2.2.2.2.1) ≤ c.2.2.2.1 then some (.ref b :: (st.take c.2.2.2.2.2.1).reverse, r) else none
      | _ => none)
    | _ => none)
  | _ => none
/-- Math.min (9997), Math.max (9996) -/
def zz_M (aux : Nat) (st : List Value) : Option (List Value) := match st with
  | .int y :: .int x :: r => if zz_cats r ≤ 8 then some (.int (if aux = 9997 then (if y < x then y else x) else (if x < y then y else x)) :: r) else none
  | _ => none
def zz_kind (ins : Instr) (aux : Nat) : Nat := match ins with
  | .getfield _ | .iaload | .baload | .laload | .aaload | .arraylength => 1
  | .putfield _ | .iastore | .bastore | .lastore | .aastore => 2
  | .new _ | .newarray _ | .anewarray _ => 3
  | .ireturn | .lreturn | .areturn | .return_ => 4
  | .invokestatic _ => if aux = 9998 then 2 else if aux = 9997 ∨ aux = 9996 then 7 else 5
  | .invokespecial _ => if aux = 9999 then 6 else 5
  | .invokevirtual _ => 5
  | _ => 0
def zz_at (m : ZM) (pc : Nat) : Option ZI := m.2.2.2.2.2.2.find? (fun i => i.1 == pc)
/-- one instruction: on it goes, or an end, or a call -/
def zz_exec (ms : List ZM) (nm : Nat → Option String) (df : Nat → List Value) (x : Nat → ZE) (m : ZM) (i : ZI) (ls : ZL) (st : List Value) (h : ZH) : Option ((Nat × ZL × List Value × ZH) ⊕ (Option Value × ZH) ⊕ (ZM × List Value × List Value)) :=
  match zz_kind i.2.1 i.2.2.2.1 with
  | 0 => (zz_A i.1 i.2.1 i.2.2.1 i.2.2.2.1 i.2.2.2.2 ls st).map (fun q => .inl (q.1, q.2.1, q.2.2, h))
  | 1 => (zz_B x h i.2.1 i.2.2.2.1 st).map (fun q => .inl (i.1 + i.2.2.1, ls, q, h))
  | 2 => (zz_C nm h i.2.1 i.2.2.2.1 i.2.2.2.2 st).map (fun q => .inl (i.1 + i.2.2.1, ls, q.1, zz_put h q.2.1 q.2.2))
  | 3 => if h.1 < 900000 then (zz_D nm df i.2.1 i.2.2.2.1 st).map (fun q => .inl (i.1 + i.2.2.1, ls, .ref h.1 :: q.1, zz_add h q.2.1 q.2.2)) else none
  | 4 => (zz_R m.2.2.2.2.1 i.2.1 st).map (fun q => .inr (.inl (q, h)))
  | 5 => (match ms[i.2.2.2.1]? with
    | some c => (zz_F x h i.2.1 c st).map (fun q => .inr (.inr (c, q.1, q.2)))
    | none => none)
  | 7 => (zz_M i.2.2.2.1 st).map (fun q => .inl (i.1 + i.2.2.1, ls, q, h))
  | _ => (match st with
    | .ref a :: r => if zz_cats r ≤ 8 ∧ a < 1000000 then some (.inl (i.1 + i.2.2.1, ls, r, h)) else none
    | _ => none)
/-- the machine: how deep calls may go, how many steps -/
def zz_run (ms : List ZM) (nm : Nat → Option String) (df : Nat → List Value) (x : Nat → ZE) : Nat → Nat → ZM → Nat → ZL → List Value → ZH → Option (Option Value × ZH)
  | _, 0, _, _, _, _, _ => none
  | d, f + 1, m, pc, ls, st, h => match zz_at m pc with
    | none => none
    | some i => match zz_exec ms nm df x m i ls st h with
      | none => none
      | some (.inl q) => zz_run ms nm df x d f m q.1 q.2.1 q.2.2.1 q.2.2.2
      | some (.inr (.inl q)) => some q
      | some (.inr (.inr q)) => match d with
        | 0 => none
        | d' + 1 => match zz_run ms nm df x d' f q.1 0 (lv_args 0 q.2.1) [] h with
          | none => none
          | some w => zz_run ms nm df x (d' + 1) f m (i.1 + i.2.2.1) ls (w.1.toList ++ q.2.2) w.2
