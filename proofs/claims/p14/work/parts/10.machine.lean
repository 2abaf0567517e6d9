/-! THE SMALL MACHINE: a function that runs the bytecode over a list of cells; behind it (20.sound) the proof that the machine of the kit follows it. A cell's address is its place in the list; the script is '.retAddr 0'. -/
abbrev im_C : Type := (Nat × vp_A) ⊕ (Nat × List Value)
abbrev im_H : Type := List im_C
abbrev im_L : Type := List (Option Value)
/-- an instruction, with two numbers that are looked up ahead: class and field, method and number of arguments, class, kind of array, target -/
abbrev im_X : Type := Instr × Nat × Nat
/-- types of the classes' fields; the script -/
abbrev im_T : Type := (Nat → List FieldType) × Option (Nat × (Nat → Int32))
abbrev im_R : Type := (Nat × im_L × List Value × im_H) ⊕ (Option Value × im_H)
abbrev im_F : Type := Nat → List Value → im_H → Option (Option Value × im_H)
def im_f (cd : List (Nat × im_X)) (pc : Nat) : Option im_X := cd.lookup pc
/-- does a long or double begin just ahead of place i -/
def im_p2 (L : im_L) (i : Nat) : Bool := match i with
  | 0 => false
  | j + 1 => match L[j]? with
    | some (some (.long _)) => true
    | some (some (.double _)) => true
    | _ => false
def im_s1 (L : im_L) (i : Nat) (v : Value) : Option im_L := if i < L.length then (if im_p2 L i = true then none else some (L.set i (some v))) else none
def im_s2 (L : im_L) (i : Nat) (v : Value) : Option im_L := if i + 1 < L.length then (if im_p2 L i = true then none else some ((L.set i (some v)).set (i + 1) none)) else none
def im_fit (ty : FieldType) (v : Value) : Bool := match ty, v with
  | .int, .int _ => true
  | .boolean, .int x => x == 0 || x == 1
  | .byte, .int x => x.toInt8.toInt32 == x
  | .long, .long _ => true
  | .object _, .ref _ => true
  | .object _, .null => true
  | .array _, .ref _ => true
  | .array _, .null => true
  | _, _ => false
def im_cmp (c : ClassFile.Cond) (x y : Int32) : Bool := match c with
  | .eq => decide (x = y)
  | .ne => decide (¬ x = y)
  | .lt => decide (x < y)
  | .ge => decide (y ≤ x)
  | .gt => decide (y < x)
  | .le => decide (x ≤ y)
def im_bin (i : Instr) (x y : Int32) : Option Int32 := match i with
  | .iadd => some (x + y)
  | .isub => some (x - y)
  | .imul => some (x * y)
  | .iand => some (x &&& y)
  | .ior => some (x ||| y)
  | .ixor => some (x ^^^ y)
  | .ishl => some (x <<< (y &&& 31))
  | .ishr => some (x >>> (y &&& 31))
  | .iushr => some (x.toUInt32 >>> (y.toUInt32 &&& Int32.toUInt32 31)).toInt32
  | .idiv => if y = 0 then none else some (x / y)
  | .irem => if y = 0 then none else some (x - x / y * y)
  | _ => none
def im_lbin (i : Instr) (x y : Int64) : Option Int64 := match i with
  | .ladd => some (x + y)
  | .lsub => some (x - y)
  | .lmul => some (x * y)
  | .ldiv => if y = 0 then none else some (x / y)
  | .lrem => if y = 0 then none else some (x - x / y * y)
  | _ => none
def im_go (pc : Nat) (L : im_L) (st : List Value) (h : im_H) : Option im_R := some (.inl (pc, L, st, h))
def im_jmp (pc : Nat) (off : Int) (L : im_L) (st : List Value) (h : im_H) : Option im_R := if 0 ≤ (pc : Int) + off then im_go ((pc : Int) + off).toNat L st h else none
def im_tsw (dflt lo hi : Int) (offs : Array Int) (x : Int32) : Option Int := if x.toInt < lo ∨ hi < x.toInt then some dflt else offs[(x.toInt - lo).toNat]?
def im_out (i : Int32) (n : Nat) : Bool := decide (i < 0 ∨ n ≤ i.toNatClampNeg)
def im_lda (L : im_L) (i : Nat) : Option Value := match L[i]? with
  | some (some (.ref a)) => some (.ref a)
  | some (some .null) => some .null
  | some (some (.retAddr a)) => some (.retAddr a)
  | _ => none
def im_isref (v : Value) : Bool := match v with
  | .ref _ => true
  | .null => true
  | _ => false
def im_isrt (r : Option FieldType) : Bool := match r with
  | some (.object _) => true
  | some (.array _) => true
  | _ => false
def im_zero (ty : FieldType) (n : Nat) : Option vp_A := match ty with
  | .int => some (n, .inl (fun _ => 0))
  | .byte => some (n, .inl (fun _ => 0))
  | .boolean => some (n, .inl (fun _ => 0))
  | .long => some (n, .inr (.inl (fun _ => 0)))
  | _ => none
def im_load (L : im_L) (i : Nat) (pc : Nat) (st : List Value) (h : im_H) (k : Nat) : Option im_R := match k, L[i]? with
  | 0, some (some (.int x)) => im_go pc L (.int x :: st) h
  | 1, some (some (.long x)) => im_go pc L (.long x :: st) h
  | 2, some (some (.ref x)) => im_go pc L (.ref x :: st) h
  | 2, some (some .null) => im_go pc L (.null :: st) h
  | 2, some (some (.retAddr x)) => im_go pc L (.retAddr x :: st) h
  | _, _ => none
def im_store (L : im_L) (i : Nat) (pc : Nat) (st : List Value) (h : im_H) (k : Nat) : Option im_R := match k, st with
  | 0, .int x :: r => (im_s1 L i (.int x)).bind fun L' => im_go pc L' r h
  | 1, .long x :: r => (im_s2 L i (.long x)).bind fun L' => im_go pc L' r h
  | 2, .ref x :: r => (im_s1 L i (.ref x)).bind fun L' => im_go pc L' r h
  | 2, .null :: r => (im_s1 L i .null).bind fun L' => im_go pc L' r h
  | _, _ => none
def im_get (ci k : Nat) (pc : Nat) (L : im_L) (st : List Value) (h : im_H) : Option im_R := match st with
  | .ref o :: r => match h[o]? with
    | some (.inr (cj, fs)) => if cj = ci then (fs[k]?).bind fun v => im_go pc L (v :: r) h else none
    | _ => none
  | _ => none
def im_putf (T : im_T) (ci k : Nat) (pc : Nat) (L : im_L) (st : List Value) (h : im_H) : Option im_R := match st with
  | v :: .ref o :: r => match h[o]? with
    | some (.inr (cj, fs)) => if cj = ci then (if k < fs.length then ((T.1 ci)[k]?).bind fun ty => if im_fit ty v = true then im_go pc L r (h.set o (.inr (ci, fs.set k v))) else none else none) else none
    | _ => none
  | _ => none
/-- arrays: kind 0 int, 1 byte, 2 long, from 3 on objects -/
def im_aldi (T : im_T) (tk : Nat) (pc : Nat) (L : im_L) (st : List Value) (h : im_H) : Option im_R := match st with
  | .int i :: .ref o :: r => match h[o]? with
    | some (.inl (kk, n, .inl f)) => if kk = tk then (if im_out i n = true then none else im_go pc L (.int (f i.toNatClampNeg) :: r) h) else none
    | _ => none
  | .int i :: .retAddr _ :: r => if tk = 0 then (T.2.bind fun q => if im_out i q.1 = true then none else im_go pc L (.int (q.2 i.toNatClampNeg) :: r) h) else none
  | _ => none
def im_aldl (pc : Nat) (L : im_L) (st : List Value) (h : im_H) : Option im_R := match st with
  | .int i :: .ref o :: r => match h[o]? with
    | some (.inl (kk, n, .inr (.inl f))) => if kk = 2 then (if im_out i n = true then none else im_go pc L (.long (f i.toNatClampNeg) :: r) h) else none
    | _ => none
  | _ => none
def im_aldr (ci pc : Nat) (L : im_L) (st : List Value) (h : im_H) : Option im_R := match st with
  | .int i :: .ref o :: r => match h[o]? with
    | some (.inl (kk, n, .inr (.inr (.inr (.inr f))))) => if kk = 3 + ci then (if im_out i n = true then none else im_go pc L (va_rf (f i.toNatClampNeg) :: r) h) else none
    | _ => none
  | _ => none
def im_asti (tk : Nat) (pc : Nat) (L : im_L) (st : List Value) (h : im_H) : Option im_R := match st with
  | .int x :: .int i :: .ref o :: r => match h[o]? with
    | some (.inl (kk, n, .inl f)) => if kk = tk then (if im_out i n = true then none else im_go pc L r (h.set o (.inl (kk, n, .inl (upd f i.toNatClampNeg (if tk = 1 then x.toInt8.toInt32 else x)))))) else none
    | _ => none
  | _ => none
def im_astl (pc : Nat) (L : im_L) (st : List Value) (h : im_H) : Option im_R := match st with
  | .long x :: .int i :: .ref o :: r => match h[o]? with
    | some (.inl (kk, n, .inr (.inl f))) => if kk = 2 then (if im_out i n = true then none else im_go pc L r (h.set o (.inl (kk, n, .inr (.inl (vp_updL f i.toNatClampNeg x)))))) else none
    | _ => none
  | _ => none
/-- a reference into an array of objects: kind 3 + ci holds objects of class ci -/
def im_astr (ck pc : Nat) (L : im_L) (st : List Value) (h : im_H) : Option im_R := match st with
  | .ref v :: .int i :: .ref o :: r => match h[o]?, h[v]? with
    | some (.inl (kk, n, .inr (.inr (.inr (.inr f))))), some (.inr (ci, _)) => if kk = 3 + ck ∧ ci = ck then (if im_out i n = true then none else im_go pc L r (h.set o (.inl (kk, n, .inr (.inr (.inr (.inr (va_up f i.toNatClampNeg (some v))))))))) else none
    | _, _ => none
  | _ => none
def im_alen (T : im_T) (tk pc : Nat) (L : im_L) (st : List Value) (h : im_H) : Option im_R := match st with
  | .ref o :: r => match h[o]? with
    | some (.inl (kk, n, _)) => if kk = tk then im_go pc L (.int (Int32.ofNat n) :: r) h else none
    | _ => none
  | .retAddr _ :: r => T.2.bind fun q => im_go pc L (.int (Int32.ofNat q.1) :: r) h
  | _ => none
def im_nty (k : Nat) : FieldType := match k with
  | 0 => .int
  | 1 => .byte
  | _ => .long
def im_newo (T : im_T) (ci : Nat) (pc : Nat) (L : im_L) (st : List Value) (h : im_H) : Option im_R := im_go pc L (.ref h.length :: st) (h ++ [.inr (ci, (T.1 ci).map defaultValue)])
def im_newa (ty : FieldType) (tk : Nat) (pc : Nat) (L : im_L) (st : List Value) (h : im_H) : Option im_R := match st with
  | .int n :: r => if n < 0 then none else if 536870912 < n.toNatClampNeg * 8 then none else (im_zero ty n.toNatClampNeg).bind fun x => im_go pc L (.ref h.length :: r) (h ++ [.inl (tk, x)])
  | _ => none
def im_newr (ci : Nat) (pc : Nat) (L : im_L) (st : List Value) (h : im_H) : Option im_R := match st with
  | .int n :: r => if n < 0 then none else if 536870912 < n.toNatClampNeg * 8 then none else im_go pc L (.ref h.length :: r) (h ++ [.inl (3 + ci, n.toNatClampNeg, .inr (.inr (.inr (.inr (fun _ => none)))))])
  | _ => none
/-- a call of method y with n arguments, the receiver among them -/
def im_inv (call : im_F) (y n : Nat) (pc : Nat) (L : im_L) (st : List Value) (h : im_H) : Option im_R :=
  if n ≤ st.length then (if ((st.drop n).map fun v => v.category).sum ≤ 8 then (call y (st.take n).reverse h).bind fun q => im_go pc L (q.1.toList ++ st.drop n) q.2 else none) else none
/-- the receiver is an object, of class ci where that is asked -/
def im_rcv (ci : Option Nat) (v : Option Value) (h : im_H) : Bool := match v with
  | some (.ref o) => match ci with
    | none => true
    | some k => match h[o]? with
      | some (.inr (cj, _)) => decide (cj = k)
      | _ => false
  | _ => false
def im_ret (ret : Option FieldType) (st : List Value) (h : im_H) : Option im_R := match st with
  | [.int v] => match ret with
    | some ty => if im_fit ty (.int v) = true then some (.inr (some (.int v), h)) else none
    | none => none
  | _ => none
def im_step (T : im_T) (call : im_F) (ret : Option FieldType) (x : im_X) (pc : Nat) (L : im_L) (st : List Value) (h : im_H) : Option im_R := match x.1 with
  | .iconst n => im_go (pc + 1) L (.int (Int32.ofInt n) :: st) h
  | .bipush n => im_go (pc + 2) L (.int (Int8.ofInt n).toInt32 :: st) h
  | .sipush n => im_go (pc + 3) L (.int (Int16.ofInt n).toInt32 :: st) h
  | .lconst n => im_go (pc + 1) L (.long (Int64.ofNat (n : Nat)) :: st) h
  | .ldc2_w _ => im_go (pc + 3) L (.long (Int64.ofNat x.2.1) :: st) h
  | .aconst_null => im_go (pc + 1) L (.null :: st) h
  | .iload_n i => im_load L i (pc + 1) st h 0
  | .iload i => im_load L i (pc + 2) st h 0
  | .lload_n i => im_load L i (pc + 1) st h 1
  | .lload i => im_load L i (pc + 2) st h 1
  | .aload_n i => im_load L i (pc + 1) st h 2
  | .aload i => im_load L i (pc + 2) st h 2
  | .istore_n i => im_store L i (pc + 1) st h 0
  | .istore i => im_store L i (pc + 2) st h 0
  | .lstore_n i => im_store L i (pc + 1) st h 1
  | .lstore i => im_store L i (pc + 2) st h 1
  | .astore_n i => im_store L i (pc + 1) st h 2
  | .astore i => im_store L i (pc + 2) st h 2
  | .iinc i n => match L[i]? with
    | some (some (.int z)) => (im_s1 L i (.int (z + Int32.ofInt n))).bind fun L' => im_go (pc + 3) L' st h
    | _ => none
  | .iadd | .isub | .imul | .iand | .ior | .ixor | .ishl | .ishr | .iushr | .idiv | .irem => match st with
    | .int b :: .int a :: r => (im_bin x.1 a b).bind fun z => im_go (pc + 1) L (.int z :: r) h
    | _ => none
  | .ineg => match st with
    | .int a :: r => im_go (pc + 1) L (.int (-a) :: r) h
    | _ => none
  | .ladd | .lsub | .lmul | .ldiv | .lrem => match st with
    | .long b :: .long a :: r => (im_lbin x.1 a b).bind fun z => im_go (pc + 1) L (.long z :: r) h
    | _ => none
  | .lneg => match st with
    | .long a :: r => im_go (pc + 1) L (.long (-a) :: r) h
    | _ => none
  | .lcmp => match st with
    | .long b :: .long a :: r => im_go (pc + 1) L (.int (lg_cmp a b) :: r) h
    | _ => none
  | .i2l => match st with
    | .int a :: r => im_go (pc + 1) L (.long a.toInt64 :: r) h
    | _ => none
  | .l2i => match st with
    | .long a :: r => im_go (pc + 1) L (.int a.toInt32 :: r) h
    | _ => none
  | .i2b => match st with
    | .int a :: r => im_go (pc + 1) L (.int a.toInt8.toInt32 :: r) h
    | _ => none
  | .dup => match st with
    | v :: r => if v.category = 1 then im_go (pc + 1) L (v :: v :: r) h else none
    | _ => none
  | .pop => match st with
    | v :: r => if v.category = 1 then im_go (pc + 1) L r h else none
    | _ => none
  | .dup2 => match st with
    | v :: w :: r => if v.category = 1 ∧ w.category = 1 then im_go (pc + 1) L (v :: w :: v :: w :: r) h else none
    | _ => none
  | .goto off => im_jmp pc off L st h
  | .ifCond c off => match st with
    | .int a :: r => if im_cmp c a 0 = true then im_jmp pc off L r h else im_go (pc + 3) L r h
    | _ => none
  | .if_icmp c off => match st with
    | .int b :: .int a :: r => if im_cmp c a b = true then im_jmp pc off L r h else im_go (pc + 3) L r h
    | _ => none
  | .ifnull off => match st with
    | .null :: r => im_jmp pc off L r h
    | .ref _ :: r => im_go (pc + 3) L r h
    | _ => none
  | .ifnonnull off => match st with
    | .ref _ :: r => im_jmp pc off L r h
    | .null :: r => im_go (pc + 3) L r h
    | _ => none
  | .tableswitch dflt lo hi offs => match st with
    | .int a :: r => (im_tsw dflt lo hi offs a).bind fun off => im_jmp pc off L r h
    | _ => none
  | .lookupswitch dflt ps => match st with
    | .int a :: r => im_jmp pc (Op.lookupswitch.offset ps.toList dflt a.toInt) L r h
    | _ => none
  | .getfield _ => im_get x.2.1 x.2.2 (pc + 3) L st h
  | .putfield _ => im_putf T x.2.1 x.2.2 (pc + 3) L st h
  | .iaload => im_aldi T 0 (pc + 1) L st h
  | .baload => im_aldi T 1 (pc + 1) L st h
  | .laload => im_aldl (pc + 1) L st h
  | .aaload => im_aldr x.2.1 (pc + 1) L st h
  | .iastore => im_asti 0 (pc + 1) L st h
  | .bastore => im_asti 1 (pc + 1) L st h
  | .lastore => im_astl (pc + 1) L st h
  | .aastore => im_astr x.2.1 (pc + 1) L st h
  | .arraylength => im_alen T x.2.1 (pc + 1) L st h
  | .new _ => im_newo T x.2.1 (pc + 3) L st h
  | .newarray _ => im_newa (im_nty x.2.1) x.2.1 (pc + 2) L st h
  | .anewarray _ => im_newr x.2.1 (pc + 3) L st h
  | .invokevirtual _ => if im_rcv (some (x.2.1 / 64)) st[x.2.2 - 1]? h = true then im_inv call x.2.1 x.2.2 (pc + 3) L st h else none
  | .invokespecial _ => if im_rcv none st[x.2.2 - 1]? h = true then im_inv call x.2.1 x.2.2 (pc + 3) L st h else none
  | .invokestatic _ => im_inv call x.2.1 x.2.2 (pc + 3) L st h
  | .ireturn => im_ret ret st h
  | .areturn => match st with
    | [v] => if im_isref v = true ∧ im_isrt ret = true then some (.inr (some v, h)) else none
    | _ => none
  | .return_ => match st with
    | [] => if ret.isNone = true then some (.inr (none, h)) else none
    | _ => none
  | _ => none
/-- n steps at most -/
def im_run (T : im_T) (call : im_F) (ret : Option FieldType) (cd : List (Nat × im_X)) : Nat → Nat → im_L → List Value → im_H → Option (Option Value × im_H)
  | 0, _, _, _, _ => none
  | n + 1, pc, L, st, h => (im_f cd pc).bind fun x => (im_step T call ret x pc L st h).bind fun q => match q with
    | .inl (pc', L', st', h') => im_run T call ret cd n pc' L' st' h'
    | .inr z => some z
/-- a method: code, number of locals, type of the answer -/
abbrev im_M : Type := List (Nat × im_X) × Nat × Option FieldType
/-- the locals at the entry -/
def im_sl (vs : List Value) : im_L := vs.flatMap fun v => if v.category = 2 then [some v, none] else [some v]
def im_ent (vs : List Value) (n : Nat) : im_L := im_sl vs ++ List.replicate (n - (im_sl vs).length) none
/-- the machine with d frames and n steps in each; 'nat' answers for what is not walked -/
def im_exec (T : im_T) (M : Nat → Option im_M) (nat : im_F) : Nat → Nat → im_F
  | 0, _, _, _, _ => none
  | d + 1, n, y, vs, h => match M y with
    | some q => if (im_sl vs).length ≤ q.2.1 then im_run T (im_exec T M nat d n) q.2.2 q.1 n 0 (im_ent vs q.2.1) [] h else none
    | none => nat y vs h
