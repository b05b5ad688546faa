/-! What must hold of an instruction ahead of any run: it is what the bytes say; its links are words of Ts. -/
def zz_okF (Ts : List Jvm.Cond) (cl : List vw_C) (OL : ZO) (own : String) (idx aux : Nat) : Prop := ∃ (C : String) (T : u_T) (N : Nat), cl[aux / 100]? = some (C, T, N) ∧ aux % 100 < N ∧ (∀ w ∈ u_ws C T N, w ∈ Ts) ∧
  (Jvm.Cond.fieldLink own idx (T (aux % 100)).1 (T (aux % 100)).2.1 (T (aux % 100)).2.2.1 ∈ Ts ∨ ∃ host, (own, idx, (T (aux % 100)).1, (T (aux % 100)).2.1, (T (aux % 100)).2.2.1, host) ∈ OL.2)
/-- a field that is written: its kind, and the table's types and names -/
def zz_okP (Ts : List Jvm.Cond) (cl : List vw_C) (OL : ZO) (y : MethodName) (idx aux : Nat) (cv : Value) : Prop := ∃ (C : String) (T : u_T) (N : Nat) (ty : Nat → FieldType), cl[aux / 100]? = some (C, T, N) ∧ aux % 100 < N ∧ (∀ w ∈ u_ws C T N, w ∈ Ts) ∧
  (∀ k, k < N → parseFieldDescriptor (T k).2.2.1 = some (ty k)) ∧ (∀ a, a < N → ∀ b, b < N → a ≠ b → (T a).2.1 ≠ (T b).2.1) ∧
  (match ty (aux % 100) with
    | .int => cv = .int 0
    | .boolean => cv = .int 1
    | .long => ∃ z, cv = .long z
    | .object _ => cv = .null
    | .array _ => cv = .null
    | _ => False) ∧
  ((Jvm.Cond.fieldLink y.cls idx (T (aux % 100)).1 (T (aux % 100)).2.1 (T (aux % 100)).2.2.1 ∈ Ts ∧ ((T (aux % 100)).2.2.2 = false ∨ ((T (aux % 100)).2.2.2 = true ∧ y.name = "<init>" ∧ (T (aux % 100)).1 = y.cls))) ∨
   (∃ host, (y.cls, idx, (T (aux % 100)).1, (T (aux % 100)).2.1, (T (aux % 100)).2.2.1, host) ∈ OL.2 ∧ (T (aux % 100)).2.2.2 = false))
/-- of a method that is called -/
def zz_okC (Ts : List Jvm.Cond) (c : ZM) : Prop := Jvm.Cond.code c.1 c.2.2.1 c.2.2.2.1 c.2.2.2.2.1 ∈ Ts ∧ Jvm.Cond.initialized c.1.cls ∈ Ts ∧ (c.1.cls ≠ "java/lang/invoke/MethodHandle" ∧ c.1.cls ≠ "java/lang/invoke/VarHandle") ∧ (parseMethodDescriptor c.1.desc).map (fun d => d.parameters.length) = some c.2.2.2.2.2.1 ∧ c.2.2.2.1 ≤ 45 ∧ plainName c.1.cls = true ∧ c.2.1 ≠ 999
def zz_okI (Ts : List Jvm.Cond) (cl : List vw_C) (SL : List (String × Nat × String × Nat)) (GL : List (String × String × String × Value)) (OL : ZO) (df : Nat → List Value) (ms : List ZM) (y : MethodName) (nL pc : Nat) (ins : Instr) (len aux : Nat) (cv : Value) : Prop := match ins with
  | .iconst n => cv = .int (Int32.ofInt n) ∧ len = 1
  | .bipush n => cv = .int (Int8.ofInt n).toInt32 ∧ len = 2
  | .sipush n => cv = .int (Int16.ofInt n).toInt32 ∧ len = 3
  | .lconst n => cv = .long (Int64.ofNat (n : Nat)) ∧ len = 1
  | .ldc idx => len = 2 ∧ ((∃ v, cv = .int v ∧ Jvm.Cond.constant y.cls idx v ∈ Ts) ∨ ∃ tx k, cv = .ref k ∧ (y.cls, idx, tx, k) ∈ SL)
  | .ldc_w idx => len = 3 ∧ ∃ v, cv = .int v ∧ Jvm.Cond.constant y.cls idx v ∈ Ts
  | .ldc2_w idx => len = 3 ∧ ∃ v, cv = .long v ∧ Jvm.Cond.constantLong y.cls idx v ∈ Ts
  | .aconst_null => len = 1 ∧ cv = .null
  | .getstatic idx => len = 3 ∧ ∃ C n d, (C, n, d, cv) ∈ GL ∧ Jvm.Cond.fieldLink y.cls idx C n d ∈ Ts
  | .iload_n k => (k : Nat) = aux ∧ len = 1
  | .iload k => k = aux ∧ len = 2
  | .lload_n k => (k : Nat) = aux ∧ len = 1
  | .lload k => k = aux ∧ len = 2
  | .aload_n k => (k : Nat) = aux ∧ len = 1
  | .aload k => k = aux ∧ len = 2
  | .istore_n k => (k : Nat) = aux ∧ len = 1 ∧ aux < nL
  | .istore k => k = aux ∧ len = 2 ∧ aux < nL
  | .lstore_n k => (k : Nat) = aux ∧ len = 1 ∧ aux + 1 < nL
  | .lstore k => k = aux ∧ len = 2 ∧ aux + 1 < nL
  | .astore_n k => (k : Nat) = aux ∧ len = 1 ∧ aux < nL
  | .astore k => k = aux ∧ len = 2 ∧ aux < nL
  | .iinc k n => k = aux ∧ len = 3 ∧ aux < nL ∧ cv = .int (Int32.ofInt n)
  | .goto o => (pc : Int) + o = (aux : Int) ∧ len = 3
  | .ifCond _ o => (pc : Int) + o = (aux : Int) ∧ len = 3
  | .if_icmp _ o => (pc : Int) + o = (aux : Int) ∧ len = 3
  | .ifnull o => (pc : Int) + o = (aux : Int) ∧ len = 3
  | .tableswitch _ _ _ _ => True
  | .getfield idx => len = 3 ∧ (zz_okF Ts cl OL y.cls idx aux ∨ (aux = 5000 ∧ Jvm.Cond.fieldLink y.cls idx "java/lang/String" "value" "[B" ∈ Ts) ∨ (aux = 5001 ∧ Jvm.Cond.fieldLink y.cls idx "java/lang/String" "coder" "B" ∈ Ts))
  | .putfield idx => len = 3 ∧ zz_okP Ts cl OL y idx aux cv
  | .new idx => len = 3 ∧ ∃ (C : String) (T : u_T) (N : Nat) (ty : Nat → FieldType), cl[aux]? = some (C, T, N) ∧ (∀ w ∈ u_ws C T N, w ∈ Ts) ∧ (∀ k, k < N → parseFieldDescriptor (T k).2.2.1 = some (ty k)) ∧ Jvm.Cond.classLink y.cls idx C ∈ Ts ∧ Jvm.Cond.instantiable C N ∈ Ts ∧ Jvm.Cond.initialized C ∈ Ts ∧ (df aux).length = N ∧ (∀ j, j < N → defaultValue (ty j) = vp_V (df aux) j) ∧ ∀ v ∈ df aux, ∀ k, v ≠ .ref k
  | .newarray ty => len = 2 ∧ Jvm.Cond.arrayClass (newarray.typeOf ty) ∈ Ts
  | .anewarray idx => len = 3 ∧ ∃ (C : String) (T : u_T) (N : Nat), cl[aux]? = some (C, T, N) ∧ Jvm.Cond.classLink y.cls idx C ∈ Ts ∧ C ∈ OL.1
  | .invokevirtual idx => len = 3 ∧ ∀ c, ms[aux]? = some c → Jvm.Cond.methodLink y.cls idx c.1 ∈ Ts ∧ Jvm.Cond.instanceMethod c.1 ∈ Ts ∧ Jvm.Cond.selects c.1.cls c.1 c.1 ∈ Ts ∧ ((∃ (T : u_T) (N : Nat), cl[c.2.1]? = some (c.1.cls, T, N)) ∨ (c.2.1 = 50 ∧ c.1.cls = "java/lang/String"))
  | .invokestatic idx => len = 3 ∧ (if aux = 9998 then Jvm.Cond.methodLink y.cls idx arraycopyName ∈ Ts ∧ Jvm.Cond.native arraycopyName ∈ Ts ∧ Jvm.Cond.static arraycopyName ∈ Ts ∧ Jvm.Cond.initialized "java/lang/System" ∈ Ts else if aux = 9997 then Jvm.Cond.methodLink y.cls idx Lib.Math.min.name ∈ Ts ∧ Jvm.Cond.static Lib.Math.min.name ∈ Ts ∧ Jvm.Cond.initialized "java/lang/Math" ∈ Ts ∧ Jvm.Cond.code Lib.Math.min.name Lib.Math.min.code 2 (some .int) ∈ Ts else if aux = 9996 then Jvm.Cond.methodLink y.cls idx Lib.Math.max.name ∈ Ts ∧ Jvm.Cond.static Lib.Math.max.name ∈ Ts ∧ Jvm.Cond.initialized "java/lang/Math" ∈ Ts ∧ Jvm.Cond.code Lib.Math.max.name Lib.Math.max.code 2 (some .int) ∈ Ts else ∀ c, ms[aux]? = some c → Jvm.Cond.methodLink y.cls idx c.1 ∈ Ts ∧ Jvm.Cond.static c.1 ∈ Ts)
  | .invokespecial idx => len = 3 ∧ (if aux = 9999 then Jvm.Cond.methodLink y.cls idx Lib.objectInit ∈ Ts ∧ Jvm.Cond.instanceMethod Lib.objectInit ∈ Ts ∧ Jvm.Cond.code Lib.objectInit ⟨#[0xb1]⟩ 1 none ∈ Ts else ∀ c, ms[aux]? = some c → c.1.name = "<init>" ∧ c.2.2.2.2.1 = none ∧ Jvm.Cond.methodLink y.cls idx c.1 ∈ Ts ∧ Jvm.Cond.instanceMethod c.1 ∈ Ts)
  | _ => len = 1
def zz_ok (Ts : List Jvm.Cond) (cl : List vw_C) (SL : List (String × Nat × String × Nat)) (GL : List (String × String × String × Value)) (OL : ZO) (df : Nat → List Value) (ms : List ZM) (m : ZM) (i : ZI) : Prop :=
  decode m.2.2.1 i.1 = .ok (i.2.1, i.2.2.1) ∧ zz_okI Ts cl SL GL OL df ms m.1 m.2.2.2.1 i.1 i.2.1 i.2.2.1 i.2.2.2.1 i.2.2.2.2
