section
/-! THE SMALL MACHINE: a function that runs the bytecode over a list of cells; behind it (20.sound) the proof that the machine of the kit follows it. A cell's address is its place in the list; the script is '.retAddr 0'. -/
abbrev im_C : Type := (Nat × vp_A) ⊕ (Nat × List Value)
abbrev im_H : Type := List im_C
abbrev im_L : Type := List (Option Value)
/-- an instruction, with two numbers that are looked up ahead: class and field, method and number of arguments, class, kind of array, target -/
abbrev im_X : Type := Instr × Nat × Nat
/-- types of the classes' fields; the script -/
abbrev im_T : Type := (Nat → List FieldType) × Option (Nat × (Nat → Int32))
abbrev im_R : Type := (Nat × im_L × List Value × im_H) ⊕ (Option Value × im_H)
abbrev im_F : Type := Nat → List Value → im_H → Option (Option Value × im_H)
def im_f (cd : List (Nat × im_X)) (pc : Nat) : Option im_X := cd.lookup pc
/-- does a long or double begin just ahead of place i -/
def im_p2 (L : im_L) (i : Nat) : Bool := match i with
  | 0 => false
  | j + 1 => match L[j]? with
    | some (some (.long _)) => true
    | some (some (.double _)) => true
    | _ => false
def im_s1 (L : im_L) (i : Nat) (v : Value) : Option im_L := if i < L.length then (if im_p2 L i = true then none else some (L.set i (some v))) else none
def im_s2 (L : im_L) (i : Nat) (v : Value) : Option im_L := if i + 1 < L.length then (if im_p2 L i = true then none else some ((L.set i (some v)).set (i + 1) none)) else none
def im_fit (ty : FieldType) (v : Value) : Bool := match ty, v with
  | .int, .int _ => true
  | .boolean, .int x => x == 0 || x == 1
  | .byte, .int x => x.toInt8.toInt32 == x
  | .long, .long _ => true
  | .object _, .ref _ => true
  | .object _, .null => true
  | .array _, .ref _ => true
  | .array _, .null => true
  | _, _ => false
def im_cmp (c : ClassFile.Cond) (x y : Int32) : Bool := match c with
  | .eq => decide (x = y)
  | .ne => decide (¬ x = y)
  | .lt => decide (x < y)
  | .ge => decide (y ≤ x)
  | .gt => decide (y < x)
  | .le => decide (x ≤ y)
def im_bin (i : Instr) (x y : Int32) : Option Int32 := match i with
  | .iadd => some (x + y)
  | .isub => some (x - y)
  | .imul => some (x * y)
  | .iand => some (x &&& y)
  | .ior => some (x ||| y)
  | .ixor => some (x ^^^ y)
  | .ishl => some (x <<< (y &&& 31))
  | .ishr => some (x >>> (y &&& 31))
  | .iushr => some (x.toUInt32 >>> (y.toUInt32 &&& Int32.toUInt32 31)).toInt32
  | .idiv => if y = 0 then none else some (x / y)
  | .irem => if y = 0 then none else some (x - x / y * y)
  | _ => none
def im_lbin (i : Instr) (x y : Int64) : Option Int64 := match i with
  | .ladd => some (x + y)
  | .lsub => some (x - y)
  | .lmul => some (x * y)
  | .ldiv => if y = 0 then none else some (x / y)
  | .lrem => if y = 0 then none else some (x - x / y * y)
  | _ => none
def im_go (pc : Nat) (L : im_L) (st : List Value) (h : im_H) : Option im_R := some (.inl (pc, L, st, h))
def im_jmp (pc : Nat) (off : Int) (L : im_L) (st : List Value) (h : im_H) : Option im_R := if 0 ≤ (pc : Int) + off then im_go ((pc : Int) + off).toNat L st h else none
def im_tsw (dflt lo hi : Int) (offs : Array Int) (x : Int32) : Option Int := if x.toInt < lo ∨ hi < x.toInt then some dflt else offs[(x.toInt - lo).toNat]?
def im_out (i : Int32) (n : Nat) : Bool := decide (i < 0 ∨ n ≤ i.toNatClampNeg)
def im_lda (L : im_L) (i : Nat) : Option Value := match L[i]? with
  | some (some (.ref a)) => some (.ref a)
  | some (some .null) => some .null
  | some (some (.retAddr a)) => some (.retAddr a)
  | _ => none
def im_isref (v : Value) : Bool := match v with
  | .ref _ => true
  | .null => true
  | _ => false
def im_isrt (r : Option FieldType) : Bool := match r with
  | some (.object _) => true
  | some (.array _) => true
  | _ => false
def im_zero (ty : FieldType) (n : Nat) : Option vp_A := match ty with
  | .int => some (n, .inl (fun _ => 0))
  | .byte => some (n, .inl (fun _ => 0))
  | .boolean => some (n, .inl (fun _ => 0))
  | .long => some (n, .inr (.inl (fun _ => 0)))
  | _ => none
def im_load (L : im_L) (i : Nat) (pc : Nat) (st : List Value) (h : im_H) (k : Nat) : Option im_R := match k, L[i]? with
  | 0, some (some (.int x)) => im_go pc L (.int x :: st) h
  | 1, some (some (.long x)) => im_go pc L (.long x :: st) h
  | 2, some (some (.ref x)) => im_go pc L (.ref x :: st) h
  | 2, some (some .null) => im_go pc L (.null :: st) h
  | 2, some (some (.retAddr x)) => im_go pc L (.retAddr x :: st) h
  | _, _ => none
def im_store (L : im_L) (i : Nat) (pc : Nat) (st : List Value) (h : im_H) (k : Nat) : Option im_R := match k, st with
  | 0, .int x :: r => (im_s1 L i (.int x)).bind fun L' => im_go pc L' r h
  | 1, .long x :: r => (im_s2 L i (.long x)).bind fun L' => im_go pc L' r h
  | 2, .ref x :: r => (im_s1 L i (.ref x)).bind fun L' => im_go pc L' r h
  | 2, .null :: r => (im_s1 L i .null).bind fun L' => im_go pc L' r h
  | _, _ => none
def im_get (ci k : Nat) (pc : Nat) (L : im_L) (st : List Value) (h : im_H) : Option im_R := match st with
  | .ref o :: r => match h[o]? with
    | some (.inr (cj, fs)) => if cj = ci then (fs[k]?).bind fun v => im_go pc L (v :: r) h else none
    | _ => none
  | _ => none
def im_putf (T : im_T) (ci k : Nat) (pc : Nat) (L : im_L) (st : List Value) (h : im_H) : Option im_R := match st with
  | v :: .ref o :: r => match h[o]? with
    | some (.inr (cj, fs)) => if cj = ci then (if k < fs.length then ((T.1 ci)[k]?).bind fun ty => if im_fit ty v = true then im_go pc L r (h.set o (.inr (ci, fs.set k v))) else none else none) else none
    | _ => none
  | _ => none
/-- arrays: kind 0 int, 1 byte, 2 long, from 3 on objects -/
def im_aldi (T : im_T) (tk : Nat) (pc : Nat) (L : im_L) (st : List Value) (h : im_H) : Option im_R := match st with
  | .int i :: .ref o :: r => match h[o]? with
    | some (.inl (kk, n, .inl f)) => if kk = tk then (if im_out i n = true then none else im_go pc L (.int (f i.toNatClampNeg) :: r) h) else none
    | _ => none
  | .int i :: .retAddr _ :: r => if tk = 0 then (T.2.bind fun q => if im_out i q.1 = true then none else im_go pc L (.int (q.2 i.toNatClampNeg) :: r) h) else none
  | _ => none
def im_aldl (pc : Nat) (L : im_L) (st : List Value) (h : im_H) : Option im_R := match st with
  | .int i :: .ref o :: r => match h[o]? with
    | some (.inl (kk, n, .inr (.inl f))) => if kk = 2 then (if im_out i n = true then none else im_go pc L (.long (f i.toNatClampNeg) :: r) h) else none
    | _ => none
  | _ => none
def im_aldr (ci pc : Nat) (L : im_L) (st : List Value) (h : im_H) : Option im_R := match st with
  | .int i :: .ref o :: r => match h[o]? with
    | some (.inl (kk, n, .inr (.inr (.inr (.inr f))))) => if kk = 3 + ci then (if im_out i n = true then none else im_go pc L (va_rf (f i.toNatClampNeg) :: r) h) else none
    | _ => none
  | _ => none
def im_asti (tk : Nat) (pc : Nat) (L : im_L) (st : List Value) (h : im_H) : Option im_R := match st with
  | .int x :: .int i :: .ref o :: r => match h[o]? with
    | some (.inl (kk, n, .inl f)) => if kk = tk then (if im_out i n = true then none else im_go pc L r (h.set o (.inl (kk, n, .inl (upd f i.toNatClampNeg (if tk = 1 then x.toInt8.toInt32 else x)))))) else none
    | _ => none
  | _ => none
def im_astl (pc : Nat) (L : im_L) (st : List Value) (h : im_H) : Option im_R := match st with
  | .long x :: .int i :: .ref o :: r => match h[o]? with
    | some (.inl (kk, n, .inr (.inl f))) => if kk = 2 then (if im_out i n = true then none else im_go pc L r (h.set o (.inl (kk, n, .inr (.inl (vp_updL f i.toNatClampNeg x)))))) else none
    | _ => none
  | _ => none
/-- a reference into an array of objects: kind 3 + ci holds objects of class ci -/
def im_astr (ck pc : Nat) (L : im_L) (st : List Value) (h : im_H) : Option im_R := match st with
  | .ref v :: .int i :: .ref o :: r => match h[o]?, h[v]? with
    | some (.inl (kk, n, .inr (.inr (.inr (.inr f))))), some (.inr (ci, _)) => if kk = 3 + ck ∧ ci = ck then (if im_out i n = true then none else im_go pc L r (h.set o (.inl (kk, n, .inr (.inr (.inr (.inr (va_up f i.toNatClampNeg (some v))))))))) else none
    | _, _ => none
  | _ => none
def im_alen (T : im_T) (tk pc : Nat) (L : im_L) (st : List Value) (h : im_H) : Option im_R := match st with
  | .ref o :: r => match h[o]? with
    | some (.inl (kk, n, _)) => if kk = tk then im_go pc L (.int (Int32.ofNat n) :: r) h else none
    | _ => none
  | .retAddr _ :: r => T.2.bind fun q => im_go pc L (.int (Int32.ofNat q.1) :: r) h
  | _ => none
def im_nty (k : Nat) : FieldType := match k with
  | 0 => .int
  | 1 => .byte
  | _ => .long
def im_newo (T : im_T) (ci : Nat) (pc : Nat) (L : im_L) (st : List Value) (h : im_H) : Option im_R := im_go pc L (.ref h.length :: st) (h ++ [.inr (ci, (T.1 ci).map defaultValue)])
def im_newa (ty : FieldType) (tk : Nat) (pc : Nat) (L : im_L) (st : List Value) (h : im_H) : Option im_R := match st with
  | .int n :: r => if n < 0 then none else if 536870912 < n.toNatClampNeg * 8 then none else (im_zero ty n.toNatClampNeg).bind fun x => im_go pc L (.ref h.length :: r) (h ++ [.inl (tk, x)])
  | _ => none
def im_newr (ci : Nat) (pc : Nat) (L : im_L) (st : List Value) (h : im_H) : Option im_R := match st with
  | .int n :: r => if n < 0 then none else if 536870912 < n.toNatClampNeg * 8 then none else im_go pc L (.ref h.length :: r) (h ++ [.inl (3 + ci, n.toNatClampNeg, .inr (.inr (.inr (.inr (fun _ => none)))))])
  | _ => none
/-- a call of method y with n arguments, the receiver among them -/
def im_inv (call : im_F) (y n : Nat) (pc : Nat) (L : im_L) (st : List Value) (h : im_H) : Option im_R :=
  if n ≤ st.length then (if ((st.drop n).map fun v => v.category).sum ≤ 8 then (call y (st.take n).reverse h).bind fun q => im_go pc L (q.1.toList ++ st.drop n) q.2 else none) else none
/-- the receiver is an object, of class ci where that is asked -/
def im_rcv (ci : Option Nat) (v : Option Value) (h : im_H) : Bool := match v with
  | some (.ref o) => match ci with
    | none => true
    | some k => match h[o]? with
      | some (.inr (cj, _)) => decide (cj = k)
      | _ => false
  | _ => false
def im_ret (ret : Option FieldType) (st : List Value) (h : im_H) : Option im_R := match st with
  | [.int v] => match ret with
    | some ty => if im_fit ty (.int v) = true then some (.inr (some (.int v), h)) else none
    | none => none
  | _ => none
def im_step (T : im_T) (call : im_F) (ret : Option FieldType) (x : im_X) (pc : Nat) (L : im_L) (st : List Value) (h : im_H) : Option im_R := match x.1 with
  | .iconst n => im_go (pc + 1) L (.int (Int32.ofInt n) :: st) h
  | .bipush n => im_go (pc + 2) L (.int (Int8.ofInt n).toInt32 :: st) h
  | .sipush n => im_go (pc + 3) L (.int (Int16.ofInt n).toInt32 :: st) h
  | .lconst n => im_go (pc + 1) L (.long (Int64.ofNat (n : Nat)) :: st) h
  | .ldc2_w _ => im_go (pc + 3) L (.long (Int64.ofNat x.2.1) :: st) h
  | .aconst_null => im_go (pc + 1) L (.null :: st) h
  | .iload_n i => im_load L i (pc + 1) st h 0
  | .iload i => im_load L i (pc + 2) st h 0
  | .lload_n i => im_load L i (pc + 1) st h 1
  | .lload i => im_load L i (pc + 2) st h 1
  | .aload_n i => im_load L i (pc + 1) st h 2
  | .aload i => im_load L i (pc + 2) st h 2
  | .istore_n i => im_store L i (pc + 1) st h 0
  | .istore i => im_store L i (pc + 2) st h 0
  | .lstore_n i => im_store L i (pc + 1) st h 1
  | .lstore i => im_store L i (pc + 2) st h 1
  | .astore_n i => im_store L i (pc + 1) st h 2
  | .astore i => im_store L i (pc + 2) st h 2
  | .iinc i n => match L[i]? with
    | some (some (.int z)) => (im_s1 L i (.int (z + Int32.ofInt n))).bind fun L' => im_go (pc + 3) L' st h
    | _ => none
  | .iadd | .isub | .imul | .iand | .ior | .ixor | .ishl | .ishr | .iushr | .idiv | .irem => match st with
    | .int b :: .int a :: r => (im_bin x.1 a b).bind fun z => im_go (pc + 1) L (.int z :: r) h
    | _ => none
  | .ineg => match st with
    | .int a :: r => im_go (pc + 1) L (.int (-a) :: r) h
    | _ => none
  | .ladd | .lsub | .lmul | .ldiv | .lrem => match st with
    | .long b :: .long a :: r => (im_lbin x.1 a b).bind fun z => im_go (pc + 1) L (.long z :: r) h
    | _ => none
  | .lneg => match st with
    | .long a :: r => im_go (pc + 1) L (.long (-a) :: r) h
    | _ => none
  | .lcmp => match st with
    | .long b :: .long a :: r => im_go (pc + 1) L (.int (lg_cmp a b) :: r) h
    | _ => none
  | .i2l => match st with
    | .int a :: r => im_go (pc + 1) L (.long a.toInt64 :: r) h
    | _ => none
  | .l2i => match st with
    | .long a :: r => im_go (pc + 1) L (.int a.toInt32 :: r) h
    | _ => none
  | .i2b => match st with
    | .int a :: r => im_go (pc + 1) L (.int a.toInt8.toInt32 :: r) h
    | _ => none
  | .dup => match st with
    | v :: r => if v.category = 1 then im_go (pc + 1) L (v :: v :: r) h else none
    | _ => none
  | .pop => match st with
    | v :: r => if v.category = 1 then im_go (pc + 1) L r h else none
    | _ => none
  | .dup2 => match st with
    | v :: w :: r => if v.category = 1 ∧ w.category = 1 then im_go (pc + 1) L (v :: w :: v :: w :: r) h else none
    | _ => none
  | .goto off => im_jmp pc off L st h
  | .ifCond c off => match st with
    | .int a :: r => if im_cmp c a 0 = true then im_jmp pc off L r h else im_go (pc + 3) L r h
    | _ => none
  | .if_icmp c off => match st with
    | .int b :: .int a :: r => if im_cmp c a b = true then im_jmp pc off L r h else im_go (pc + 3) L r h
    | _ => none
  | .ifnull off => match st with
    | .null :: r => im_jmp pc off L r h
    | .ref _ :: r => im_go (pc + 3) L r h
    | _ => none
  | .ifnonnull off => match st with
    | .ref _ :: r => im_jmp pc off L r h
    | .null :: r => im_go (pc + 3) L r h
    | _ => none
  | .tableswitch dflt lo hi offs => match st with
    | .int a :: r => (im_tsw dflt lo hi offs a).bind fun off => im_jmp pc off L r h
    | _ => none
  | .lookupswitch dflt ps => match st with
    | .int a :: r => im_jmp pc (Op.lookupswitch.offset ps.toList dflt a.toInt) L r h
    | _ => none
  | .getfield _ => im_get x.2.1 x.2.2 (pc + 3) L st h
  | .putfield _ => im_putf T x.2.1 x.2.2 (pc + 3) L st h
  | .iaload => im_aldi T 0 (pc + 1) L st h
  | .baload => im_aldi T 1 (pc + 1) L st h
  | .laload => im_aldl (pc + 1) L st h
  | .aaload => im_aldr x.2.1 (pc + 1) L st h
  | .iastore => im_asti 0 (pc + 1) L st h
  | .bastore => im_asti 1 (pc + 1) L st h
  | .lastore => im_astl (pc + 1) L st h
  | .aastore => im_astr x.2.1 (pc + 1) L st h
  | .arraylength => im_alen T x.2.1 (pc + 1) L st h
  | .new _ => im_newo T x.2.1 (pc + 3) L st h
  | .newarray _ => im_newa (im_nty x.2.1) x.2.1 (pc + 2) L st h
  | .anewarray _ => im_newr x.2.1 (pc + 3) L st h
  | .invokevirtual _ => if im_rcv (some (x.2.1 / 64)) st[x.2.2 - 1]? h = true then im_inv call x.2.1 x.2.2 (pc + 3) L st h else none
  | .invokespecial _ => if im_rcv none st[x.2.2 - 1]? h = true then im_inv call x.2.1 x.2.2 (pc + 3) L st h else none
  | .invokestatic _ => im_inv call x.2.1 x.2.2 (pc + 3) L st h
  | .ireturn => im_ret ret st h
  | .areturn => match st with
    | [v] => if im_isref v = true ∧ im_isrt ret = true then some (.inr (some v, h)) else none
    | _ => none
  | .return_ => match st with
    | [] => if ret.isNone = true then some (.inr (none, h)) else none
    | _ => none
  | _ => none
/-- n steps at most -/
def im_run (T : im_T) (call : im_F) (ret : Option FieldType) (cd : List (Nat × im_X)) : Nat → Nat → im_L → List Value → im_H → Option (Option Value × im_H)
  | 0, _, _, _, _ => none
  | n + 1, pc, L, st, h => (im_f cd pc).bind fun x => (im_step T call ret x pc L st h).bind fun q => match q with
    | .inl (pc', L', st', h') => im_run T call ret cd n pc' L' st' h'
    | .inr z => some z
/-- a method: code, number of locals, type of the answer -/
abbrev im_M : Type := List (Nat × im_X) × Nat × Option FieldType
/-- the locals at the entry -/
def im_sl (vs : List Value) : im_L := vs.flatMap fun v => if v.category = 2 then [some v, none] else [some v]
def im_ent (vs : List Value) (n : Nat) : im_L := im_sl vs ++ List.replicate (n - (im_sl vs).length) none
/-- the machine with d frames and n steps in each; 'nat' answers for what is not walked -/
def im_exec (T : im_T) (M : Nat → Option im_M) (nat : im_F) : Nat → Nat → im_F
  | 0, _, _, _, _ => none
  | d + 1, n, y, vs, h => match M y with
    | some q => if (im_sl vs).length ≤ q.2.1 then im_run T (im_exec T M nat d n) q.2.2 q.1 n 0 (im_ent vs q.2.1) [] h else none
    | none => nat y vs h
end
section
/-! THE KIT'S MACHINE FOLLOWS THE SMALL ONE -/
def im_rv (B b : Nat) (v : Value) : Value := match v with
  | .int x => .int x
  | .long x => .long x
  | .float x => .float x
  | .double x => .double x
  | .null => .null
  | .ref a => .ref (B + a)
  | .retAddr _ => .ref b
def im_tc (tys : List (ClassId × FieldType)) (k : Nat) : ClassId := ((tys[k]?).map fun q => q.1).getD 0
def im_ra (B : Nat) (x : vp_A) : vp_A := (x.1, match x.2 with
  | .inl f => .inl f
  | .inr (.inl f) => .inr (.inl f)
  | .inr (.inr (.inl f)) => .inr (.inr (.inl f))
  | .inr (.inr (.inr (.inl f))) => .inr (.inr (.inr (.inl f)))
  | .inr (.inr (.inr (.inr f))) => .inr (.inr (.inr (.inr (fun j => (f j).map (fun a => B + a))))))
def im_rc (B b : Nat) (tys : List (ClassId × FieldType)) (x : im_C) : va_E := match x with
  | .inl q => .inl (im_tc tys q.1, im_ra B q.2)
  | .inr q => .inr (q.1, q.2.map (im_rv B b))
/-- a cell of which something is said: an array, or an object of a listed class -/
def im_lv (cl : List vw_C) (x : im_C) : Prop := match x with
  | .inl _ => True
  | .inr q => q.1 < cl.length
def im_W (D : va_G) (cl : List vw_C) (tys : List (ClassId × FieldType)) (B b : Nat) (h : im_H) (H : Heap) : Prop := H.size = B + h.length ∧ ∀ (k : Nat) (x : im_C), h[k]? = some x → im_lv cl x → va_at D cl (B + k, im_rc B b tys x) H
theorem im_W.set {D : va_G} {cl : List vw_C} {tys : List (ClassId × FieldType)} {B b : Nat} {h : im_H} {H H1 : Heap} (hW : im_W D cl tys B b h H) {k : Nat} {x : im_C} (hx : im_lv cl x → va_at D cl (B + k, im_rc B b tys x) H1) (hz : H1.size = H.size) (ho : ∀ q : Nat, q ≠ B + k → H1[q]? = H[q]?) : im_W D cl tys B b (h.set k x) H1 := by
  refine ⟨by rw [hz, hW.1, List.length_set], fun j y hj hlv => ?_⟩
  by_cases hjk : j = k
  · subst hjk
    have hl : j < h.length := by
      have := (List.getElem?_eq_some_iff.mp hj).1
      rwa [List.length_set] at this
    rw [List.getElem?_set_self hl] at hj
    cases hj
    exact hx hlv
  · rw [List.getElem?_set_ne (fun q => hjk q.symm)] at hj
    exact (hW.2 j y hj hlv).kept (ho _ (by show B + j ≠ B + k; omega))
theorem im_W.push {D : va_G} {cl : List vw_C} {tys : List (ClassId × FieldType)} {B b : Nat} {h : im_H} {H H1 : Heap} (hW : im_W D cl tys B b h H) {x : im_C} (hx : im_lv cl x → va_at D cl (B + h.length, im_rc B b tys x) H1) (hz : H1.size = H.size + 1) (ho : ∀ q : Nat, q < H.size → H1[q]? = H[q]?) : im_W D cl tys B b (h ++ [x]) H1 := by
  refine ⟨by rw [hz, hW.1, List.length_append]; rfl, fun j y hj hlv => ?_⟩
  by_cases hjk : j < h.length
  · rw [List.getElem?_append_left hjk] at hj
    exact (hW.2 j y hj hlv).kept (ho _ (by have := hW.1; show B + j < H.size; omega))
  · have hl := (List.getElem?_eq_some_iff.mp hj).1
    rw [List.length_append, List.length_singleton] at hl
    have : j = h.length := by omega
    subst this
    rw [List.getElem?_append_right (Nat.le_refl _), Nat.sub_self] at hj
    cases hj
    exact hx hlv
theorem im_lvo {cl : List vw_C} {ci : Nat} {r : vw_C} {fs : List Value} (h : cl[ci]? = some r) : im_lv cl (.inr (ci, fs)) := (List.getElem?_eq_some_iff.mp h).1
theorem im_rv_cat (B b : Nat) (v : Value) : (im_rv B b v).category = v.category := by cases v <;> rfl
theorem im_rv_cats (B b : Nat) (r : List Value) : ((r.map (im_rv B b)).map fun v => v.category) = r.map fun v => v.category := by
  rw [List.map_map]
  apply List.map_congr_left
  intro v _
  exact im_rv_cat B b v
/-! locals -/
def im_Lr (B b : Nat) (ls : Array Slot) (L : im_L) : Prop := lv_has ls L.length [] ∧ ∀ (i : Nat) (v : Value), L[i]? = some (some v) → ls[i]? = some (.val (im_rv B b v))
def im_pr (B b : Nat) (L : im_L) : List (Nat × Value) := (List.range L.length).filterMap (fun i => match L[i]? with
  | some (some v) => some (i, im_rv B b v)
  | _ => none)
theorem im_pr_mem {B b : Nat} {L : im_L} {i : Nat} {v : Value} (h : L[i]? = some (some v)) : (i, im_rv B b v) ∈ im_pr B b L := by
  refine List.mem_filterMap.mpr ⟨i, List.mem_range.mpr (List.getElem?_eq_some_iff.mp h).1, ?_⟩
  rw [h]
theorem im_pr_of {B b : Nat} {L : im_L} {q : Nat × Value} (h : q ∈ im_pr B b L) : ∃ v, L[q.1]? = some (some v) ∧ q.2 = im_rv B b v := by
  obtain ⟨i, -, hi⟩ := List.mem_filterMap.mp h
  cases hL : L[i]? with
  | none => rw [hL] at hi; cases hi
  | some o =>
    cases o with
    | none => rw [hL] at hi; cases hi
    | some v =>
      rw [hL] at hi
      cases hi
      exact ⟨v, hL, rfl⟩
theorem im_Lr.has {B b : Nat} {ls : Array Slot} {L : im_L} (h : im_Lr B b ls L) : lv_has ls L.length (im_pr B b L) := by
  refine ⟨h.1.1, h.1.2.1, fun q hq => ?_⟩
  obtain ⟨v, h1, h2⟩ := im_pr_of hq
  rw [h2]
  exact h.2 _ _ h1
theorem im_p2_of {L : im_L} {i j : Nat} {v : Value} (hp : ¬ im_p2 L i = true) (hj : L[j]? = some (some v)) (hji : j + 1 = i) : ¬ v.category = 2 := by
  subst hji
  intro hc
  apply hp
  unfold im_p2
  cases v <;> simp_all [Value.category]
theorem im_s1_some {L L' : im_L} {i : Nat} {v : Value} (h : im_s1 L i v = some L') : i < L.length ∧ ¬ im_p2 L i = true ∧ L' = L.set i (some v) := by
  unfold im_s1 at h
  by_cases h1 : i < L.length
  · rw [if_pos h1] at h
    by_cases h2 : im_p2 L i = true
    · rw [if_pos h2] at h; cases h
    · rw [if_neg h2] at h
      cases h
      exact ⟨h1, h2, rfl⟩
  · rw [if_neg h1] at h; cases h
theorem im_s2_some {L L' : im_L} {i : Nat} {v : Value} (h : im_s2 L i v = some L') : i + 1 < L.length ∧ ¬ im_p2 L i = true ∧ L' = (L.set i (some v)).set (i + 1) none := by
  unfold im_s2 at h
  by_cases h1 : i + 1 < L.length
  · rw [if_pos h1] at h
    by_cases h2 : im_p2 L i = true
    · rw [if_pos h2] at h; cases h
    · rw [if_neg h2] at h
      cases h
      exact ⟨h1, h2, rfl⟩
  · rw [if_neg h1] at h; cases h
theorem im_Lr.s1 {B b : Nat} {ls' : Array Slot} {L L' : im_L} {i : Nat} {v : Value} {lv' : List (Nat × Value)} (hs : im_s1 L i v = some L') (hl : (i, im_rv B b v) :: (im_pr B b L).filter (fun q => !(q.1 == i) && !(q.1 + 1 == i && q.2.category == 2)) = lv') (h : lv_has ls' L.length lv') : im_Lr B b ls' L' := by
  obtain ⟨h1, h2, rfl⟩ := im_s1_some hs
  subst hl
  refine ⟨⟨by rw [List.length_set]; exact h.1, h.2.1, fun q hq => by cases hq⟩, fun j w hj => ?_⟩
  by_cases hji : j = i
  · subst hji
    rw [List.getElem?_set_self h1] at hj
    cases hj
    exact h.2.2 _ List.mem_cons_self
  · rw [List.getElem?_set_ne (fun q => hji q.symm)] at hj
    refine h.2.2 (j, im_rv B b w) (List.mem_cons_of_mem _ (List.mem_filter.mpr ⟨im_pr_mem hj, ?_⟩))
    by_cases hq : j + 1 = i
    · have := im_p2_of h2 hj hq
      simp [hji, im_rv_cat, this]
    · simp [hji, hq]
theorem im_Lr.s2 {B b : Nat} {ls' : Array Slot} {L L' : im_L} {i : Nat} {v : Value} {lv' : List (Nat × Value)} (hs : im_s2 L i v = some L') (hl : (i, im_rv B b v) :: (im_pr B b L).filter (fun q => !(q.1 == i) && (!(q.1 == i + 1) && !(q.1 + 1 == i && q.2.category == 2))) = lv') (h : lv_has ls' L.length lv') : im_Lr B b ls' L' := by
  obtain ⟨h1, h2, rfl⟩ := im_s2_some hs
  subst hl
  refine ⟨⟨by rw [List.length_set, List.length_set]; exact h.1, h.2.1, fun q hq => by cases hq⟩, fun j w hj => ?_⟩
  by_cases hj1 : j = i + 1
  · subst hj1
    rw [List.getElem?_set_self (by rw [List.length_set]; exact h1)] at hj
    cases hj
  · rw [List.getElem?_set_ne (fun q => hj1 q.symm)] at hj
    by_cases hji : j = i
    · subst hji
      rw [List.getElem?_set_self (by omega)] at hj
      cases hj
      exact h.2.2 _ List.mem_cons_self
    · rw [List.getElem?_set_ne (fun q => hji q.symm)] at hj
      refine h.2.2 (j, im_rv B b w) (List.mem_cons_of_mem _ (List.mem_filter.mpr ⟨im_pr_mem hj, ?_⟩))
      by_cases hq : j + 1 = i
      · have := im_p2_of h2 hj hq
        simp [hji, hj1, im_rv_cat, this]
      · simp [hji, hj1, hq]
/-! growth: cells and slots never become fewer -/
def im_sc (x : im_C) : Nat := match x with
  | .inl q => q.2.1
  | .inr q => q.2.length
def im_sz (h : im_H) : Nat := (h.map im_sc).sum
theorem im_sz_push (h : im_H) (x : im_C) : im_sz (h ++ [x]) = im_sz h + im_sc x := by simp [im_sz]
theorem im_sz_set {h : im_H} {k : Nat} {x y : im_C} (hk : h[k]? = some x) (hs : im_sc y = im_sc x) : im_sz (h.set k y) = im_sz h := by
  unfold im_sz
  congr 1
  apply List.ext_getElem?
  intro j
  rw [List.getElem?_map, List.getElem?_map]
  by_cases hj : j = k
  · subst hj
    rw [List.getElem?_set_self (List.getElem?_eq_some_iff.mp hk).1, hk]
    simp [hs]
  · rw [List.getElem?_set_ne (fun q => hj q.symm)]
def im_Up (h h' : im_H) : Prop := h.length ≤ h'.length ∧ im_sz h ≤ im_sz h'
theorem im_Up.rf (h : im_H) : im_Up h h := ⟨Nat.le_refl _, Nat.le_refl _⟩
theorem im_Up.tr {a b c : im_H} (h : im_Up a b) (k : im_Up b c) : im_Up a c := ⟨Nat.le_trans h.1 k.1, Nat.le_trans h.2 k.2⟩
end
section
def im_hp (q : im_R) : im_H := match q with
  | .inl z => z.2.2.2
  | .inr z => z.2
theorem im_go_some {pc : Nat} {L : im_L} {st : List Value} {h : im_H} {q : im_R} (hs : im_go pc L st h = some q) : q = .inl (pc, L, st, h) := (Option.some.inj hs).symm
theorem im_go_up {pc : Nat} {L : im_L} {st : List Value} {h : im_H} {q : im_R} (hs : im_go pc L st h = some q) : im_Up h (im_hp q) := by
  rw [im_go_some hs]; exact im_Up.rf h
theorem im_jmp_up {pc : Nat} {off : Int} {L : im_L} {st : List Value} {h : im_H} {q : im_R} (hs : im_jmp pc off L st h = some q) : im_Up h (im_hp q) := by
  unfold im_jmp at hs
  split at hs
  · exact im_go_up hs
  · cases hs
theorem im_load_up {L : im_L} {i pc : Nat} {st : List Value} {h : im_H} {k : Nat} {q : im_R} (hs : im_load L i pc st h k = some q) : im_Up h (im_hp q) := by
  unfold im_load at hs
  split at hs <;> first | exact im_go_up hs | cases hs
theorem im_store_up {L : im_L} {i pc : Nat} {st : List Value} {h : im_H} {k : Nat} {q : im_R} (hs : im_store L i pc st h k = some q) : im_Up h (im_hp q) := by
  unfold im_store at hs
  split at hs <;> first | (obtain ⟨L', -, h2⟩ := Option.bind_eq_some_iff.mp hs; exact im_go_up h2) | cases hs
theorem im_get_up {ci k pc : Nat} {L : im_L} {st : List Value} {h : im_H} {q : im_R} (hs : im_get ci k pc L st h = some q) : im_Up h (im_hp q) := by
  unfold im_get at hs
  split at hs
  · split at hs
    · split at hs
      · obtain ⟨v, -, h2⟩ := Option.bind_eq_some_iff.mp hs
        exact im_go_up h2
      · cases hs
    · cases hs
  · cases hs
theorem im_putf_up {T : im_T} {ci k pc : Nat} {L : im_L} {st : List Value} {h : im_H} {q : im_R} (hs : im_putf T ci k pc L st h = some q) : im_Up h (im_hp q) := by
  unfold im_putf at hs
  split at hs
  · split at hs
    · rename_i hx
      split at hs
      · split at hs
        · obtain ⟨ty, -, h2⟩ := Option.bind_eq_some_iff.mp hs
          split at h2
          · rw [im_go_some h2]
            exact ⟨by show _ ≤ (List.set _ _ _).length; rw [List.length_set]; exact Nat.le_refl _, by show _ ≤ im_sz (List.set _ _ _); rw [im_sz_set hx (by simp [im_sc])]; exact Nat.le_refl _⟩
          · cases h2
        · cases hs
      · cases hs
    · cases hs
  · cases hs
theorem im_aldi_up {T : im_T} {tk pc : Nat} {L : im_L} {st : List Value} {h : im_H} {q : im_R} (hs : im_aldi T tk pc L st h = some q) : im_Up h (im_hp q) := by
  unfold im_aldi at hs
  split at hs
  · split at hs
    · split at hs
      · split at hs
        · cases hs
        · exact im_go_up hs
      · cases hs
    · cases hs
  · split at hs
    · obtain ⟨z, -, h2⟩ := Option.bind_eq_some_iff.mp hs
      split at h2
      · cases h2
      · exact im_go_up h2
    · cases hs
  · cases hs
theorem im_aldl_up {pc : Nat} {L : im_L} {st : List Value} {h : im_H} {q : im_R} (hs : im_aldl pc L st h = some q) : im_Up h (im_hp q) := by
  unfold im_aldl at hs
  split at hs
  · split at hs
    · split at hs
      · split at hs
        · cases hs
        · exact im_go_up hs
      · cases hs
    · cases hs
  · cases hs
theorem im_aldr_up {ci pc : Nat} {L : im_L} {st : List Value} {h : im_H} {q : im_R} (hs : im_aldr ci pc L st h = some q) : im_Up h (im_hp q) := by
  unfold im_aldr at hs
  split at hs
  · split at hs
    · split at hs
      · split at hs
        · cases hs
        · exact im_go_up hs
      · cases hs
    · cases hs
  · cases hs
theorem im_set_up {h : im_H} {o : Nat} {x y : im_C} (hx : h[o]? = some x) (hy : im_sc y = im_sc x) : im_Up h (h.set o y) :=
  ⟨by rw [List.length_set]; exact Nat.le_refl _, by rw [im_sz_set hx hy]; exact Nat.le_refl _⟩
theorem im_asti_up {tk pc : Nat} {L : im_L} {st : List Value} {h : im_H} {q : im_R} (hs : im_asti tk pc L st h = some q) : im_Up h (im_hp q) := by
  unfold im_asti at hs
  split at hs
  · split at hs
    · rename_i hx
      split at hs
      · split at hs
        · cases hs
        · rw [im_go_some hs]
          exact im_set_up hx rfl
      · cases hs
    · cases hs
  · cases hs
theorem im_astl_up {pc : Nat} {L : im_L} {st : List Value} {h : im_H} {q : im_R} (hs : im_astl pc L st h = some q) : im_Up h (im_hp q) := by
  unfold im_astl at hs
  split at hs
  · split at hs
    · rename_i hx
      split at hs
      · split at hs
        · cases hs
        · rw [im_go_some hs]
          exact im_set_up hx rfl
      · cases hs
    · cases hs
  · cases hs
theorem im_astr_up {ck pc : Nat} {L : im_L} {st : List Value} {h : im_H} {q : im_R} (hs : im_astr ck pc L st h = some q) : im_Up h (im_hp q) := by
  unfold im_astr at hs
  split at hs
  · split at hs
    · rename_i hx hv
      split at hs
      · split at hs
        · cases hs
        · rw [im_go_some hs]
          exact im_set_up hx rfl
      · cases hs
    · cases hs
  · cases hs
theorem im_alen_up {T : im_T} {tk pc : Nat} {L : im_L} {st : List Value} {h : im_H} {q : im_R} (hs : im_alen T tk pc L st h = some q) : im_Up h (im_hp q) := by
  unfold im_alen at hs
  split at hs
  · split at hs
    · split at hs
      · exact im_go_up hs
      · cases hs
    · cases hs
  · obtain ⟨z, -, h2⟩ := Option.bind_eq_some_iff.mp hs
    exact im_go_up h2
  · cases hs
theorem im_push_up (h : im_H) (x : im_C) : im_Up h (h ++ [x]) :=
  ⟨by rw [List.length_append]; exact Nat.le_add_right _ _, by rw [im_sz_push]; exact Nat.le_add_right _ _⟩
theorem im_newo_up {T : im_T} {ci pc : Nat} {L : im_L} {st : List Value} {h : im_H} {q : im_R} (hs : im_newo T ci pc L st h = some q) : im_Up h (im_hp q) := by
  rw [im_go_some hs]
  exact im_push_up _ _
theorem im_newa_up {ty : FieldType} {tk pc : Nat} {L : im_L} {st : List Value} {h : im_H} {q : im_R} (hs : im_newa ty tk pc L st h = some q) : im_Up h (im_hp q) := by
  unfold im_newa at hs
  split at hs
  · split at hs
    · cases hs
    · split at hs
      · cases hs
      · obtain ⟨x, -, h2⟩ := Option.bind_eq_some_iff.mp hs
        rw [im_go_some h2]
        exact im_push_up _ _
  · cases hs
theorem im_newr_up {ci pc : Nat} {L : im_L} {st : List Value} {h : im_H} {q : im_R} (hs : im_newr ci pc L st h = some q) : im_Up h (im_hp q) := by
  unfold im_newr at hs
  split at hs
  · split at hs
    · cases hs
    · split at hs
      · cases hs
      · rw [im_go_some hs]
        exact im_push_up _ _
  · cases hs
theorem im_inv_some {call : im_F} {y n pc : Nat} {L : im_L} {st : List Value} {h : im_H} {q : im_R} (hs : im_inv call y n pc L st h = some q) : n ≤ st.length ∧ ((st.drop n).map fun v => v.category).sum ≤ 8 ∧ ∃ r h', call y (st.take n).reverse h = some (r, h') ∧ q = .inl (pc, L, r.toList ++ st.drop n, h') := by
  unfold im_inv at hs
  split at hs
  · rename_i h1
    split at hs
    · rename_i h2
      obtain ⟨z, h3, h4⟩ := Option.bind_eq_some_iff.mp hs
      exact ⟨h1, h2, z.1, z.2, h3, im_go_some h4⟩
    · cases hs
  · cases hs
def im_Cup (call : im_F) : Prop := ∀ y vs h r h', call y vs h = some (r, h') → im_Up h h'
theorem im_inv_up {call : im_F} (hc : im_Cup call) {y n pc : Nat} {L : im_L} {st : List Value} {h : im_H} {q : im_R} (hs : im_inv call y n pc L st h = some q) : im_Up h (im_hp q) := by
  obtain ⟨-, -, r, h', h1, rfl⟩ := im_inv_some hs
  exact hc _ _ _ _ _ h1
theorem im_ret_up {ret : Option FieldType} {st : List Value} {h : im_H} {q : im_R} (hs : im_ret ret st h = some q) : im_Up h (im_hp q) := by
  unfold im_ret at hs
  split at hs
  · split at hs
    · split at hs
      · cases hs; exact im_Up.rf h
      · cases hs
    · cases hs
  · cases hs
set_option maxHeartbeats 4000000 in
theorem im_step_up {T : im_T} {call : im_F} (hc : im_Cup call) {ret : Option FieldType} {x : im_X} {pc : Nat} {L : im_L} {st : List Value} {h : im_H} {q : im_R} (hs : im_step T call ret x pc L st h = some q) : im_Up h (im_hp q) := by
  unfold im_step at hs
  split at hs
  all_goals first
    | exact im_go_up hs
    | exact im_load_up hs
    | exact im_store_up hs
    | exact im_jmp_up hs
    | exact im_get_up hs
    | exact im_putf_up hs
    | exact im_aldi_up hs
    | exact im_aldl_up hs
    | exact im_aldr_up hs
    | exact im_asti_up hs
    | exact im_astl_up hs
    | exact im_astr_up hs
    | exact im_alen_up hs
    | exact im_newo_up hs
    | exact im_newa_up hs
    | exact im_newr_up hs
    | exact im_inv_up hc hs
    | exact im_ret_up hs
    | (cases hs; done)
    | (split at hs <;> first | exact im_inv_up hc hs | exact im_go_up hs | exact im_jmp_up hs | (cases hs; done) | (obtain ⟨z, -, h2⟩ := Option.bind_eq_some_iff.mp hs; first | exact im_go_up h2 | exact im_jmp_up h2) | (split at hs <;> first | exact im_go_up hs | exact im_jmp_up hs | (cases hs; exact im_Up.rf h) | (cases hs; done)) | (cases hs; exact im_Up.rf h))
theorem im_run_up {T : im_T} {call : im_F} (hc : im_Cup call) {ret : Option FieldType} {cd : List (Nat × im_X)} : ∀ (n pc : Nat) (L : im_L) (st : List Value) (h : im_H) (r : Option Value) (h' : im_H), im_run T call ret cd n pc L st h = some (r, h') → im_Up h h'
  | 0, _, _, _, _, _, _, hs => by cases hs
  | n + 1, pc, L, st, h, r, h', hs => by
    rw [im_run] at hs
    obtain ⟨x, -, h2⟩ := Option.bind_eq_some_iff.mp hs
    obtain ⟨q, h3, h4⟩ := Option.bind_eq_some_iff.mp h2
    have hu := im_step_up hc h3
    split at h4
    · exact hu.tr (im_run_up hc n _ _ _ _ _ _ h4)
    · cases h4
      exact hu
theorem im_exec_up {T : im_T} {M : Nat → Option im_M} {nat : im_F} (hn : im_Cup nat) : ∀ (d n : Nat), im_Cup (im_exec T M nat d n)
  | 0, _ => fun _ _ _ _ _ hs => by cases hs
  | d + 1, n => fun y vs h r h' hs => by
    rw [im_exec] at hs
    split at hs
    · split at hs
      · exact im_run_up (im_exec_up hn d n) _ _ _ _ _ _ _ hs
      · cases hs
    · exact hn _ _ _ _ _ hs
end
section
/-! one step -/
def im_K (TB : List Jvm.Cond) (D : va_G) (cl : List vw_C) (tys : List (ClassId × FieldType)) (U : State) : Prop := (∀ w ∈ TB, ∀ a : Array Value, w.before a U = true) ∧ va_K D cl tys U
def im_cls (TB : List Jvm.Cond) (F : Nat → List FieldType) (cl : List vw_C) : Prop := ∀ (ci : Nat) (C : String) (Tt : u_T) (N : Nat), cl[ci]? = some (C, Tt, N) → (∀ w ∈ u_ws C Tt N, w ∈ TB) ∧ (F ci).length = N ∧ (∀ k, k < N → parseFieldDescriptor (Tt k).2.2.1 = (F ci)[k]?) ∧ (∀ a, a < N → ∀ b, b < N → a ≠ b → (Tt a).2.1 ≠ (Tt b).2.1)
def im_kty (cl : List vw_C) (k : Nat) : Option FieldType := match k with
  | 0 => some .int
  | 1 => some .byte
  | 2 => some .long
  | j + 3 => (cl[j]?).map fun r => .object r.1
def im_kinds (cl : List vw_C) (tys : List (ClassId × FieldType)) : Prop := ∀ (k : Nat) (ty : FieldType), im_kty cl k = some ty → tys[k]? = some (im_tc tys k, ty)
def im_lk (TB : List Jvm.Cond) (own : String) (idx : Nat) (q : String × String × String × Bool) : Prop := Jvm.Cond.fieldLink own idx q.1 q.2.1 q.2.2.1 ∈ TB ∨ ∃ host : String, Jvm.Cond.fieldLinkNest own idx q.1 q.2.1 q.2.2.1 host ∈ TB
def im_ok (TB : List Jvm.Cond) (cl : List vw_C) (own mn : String) (x : im_X) : Prop := match x.1 with
  | .getfield idx => ∃ (C : String) (Tt : u_T) (N : Nat), cl[x.2.1]? = some (C, Tt, N) ∧ x.2.2 < N ∧ im_lk TB own idx (Tt x.2.2)
  | .putfield idx => ∃ (C : String) (Tt : u_T) (N : Nat), cl[x.2.1]? = some (C, Tt, N) ∧ x.2.2 < N ∧ (((Tt x.2.2).2.2.2 = false ∧ im_lk TB own idx (Tt x.2.2)) ∨ ((Tt x.2.2).2.2.2 = true ∧ mn = "<init>" ∧ (Tt x.2.2).1 = own ∧ Jvm.Cond.fieldLink own idx (Tt x.2.2).1 (Tt x.2.2).2.1 (Tt x.2.2).2.2.1 ∈ TB))
  | .new idx => ∃ (C : String) (Tt : u_T) (N : Nat), cl[x.2.1]? = some (C, Tt, N) ∧ Jvm.Cond.classLink own idx C ∈ TB ∧ Jvm.Cond.instantiable C N ∈ TB ∧ Jvm.Cond.initialized C ∈ TB
  | .newarray t => x.2.1 < 3 ∧ im_kty cl x.2.1 = some (newarray.typeOf t) ∧ Jvm.Cond.arrayClass (newarray.typeOf t) ∈ TB
  | .anewarray idx => ∃ (C : String) (Tt : u_T) (N : Nat), cl[x.2.1]? = some (C, Tt, N) ∧ Jvm.Cond.classLink own idx C ∈ TB ∧ Jvm.Cond.arrayOver (.object C) ∈ TB
  | .aaload | .aastore => ∃ (C : String) (Tt : u_T) (N : Nat), cl[x.2.1]? = some (C, Tt, N)
  | .arraylength => ∃ ty : FieldType, im_kty cl x.2.1 = some ty
  | .ldc2_w idx => Jvm.Cond.constantLong own idx (Int64.ofNat x.2.1) ∈ TB
  | .lookupswitch _ ps => (ps.toList.zip (ps.toList.drop 1)).all (fun (a, next) => a.1 < next.1) = true
  | _ => True
def im_len (i : Instr) : Nat := match i with
  | .bipush _ | .iload _ | .lload _ | .aload _ | .istore _ | .lstore _ | .astore _ | .newarray _ => 2
  | .sipush _ | .ldc2_w _ | .iinc _ _ | .goto _ | .ifCond _ _ | .if_icmp _ _ | .ifnull _ | .ifnonnull _ | .getfield _ | .putfield _ | .new _ | .anewarray _ | .invokevirtual _ | .invokespecial _ | .invokestatic _ => 3
  | _ => 1
def im_dk (cc : ByteArray) (pc : Nat) (x : im_X) : Prop := match x.1 with
  | .tableswitch a b c d => decode cc pc = .ok (.tableswitch a b c d, x.2.1)
  | .lookupswitch a b => decode cc pc = .ok (.lookupswitch a b, x.2.1)
  | .ifCond a off => decode cc pc = .ok (.ifCond a off, 3) ∧ 0 ≤ (pc : Int) + off
  | .if_icmp a off => decode cc pc = .ok (.if_icmp a off, 3) ∧ 0 ≤ (pc : Int) + off
  | .ifnull off => decode cc pc = .ok (.ifnull off, 3) ∧ 0 ≤ (pc : Int) + off
  | .ifnonnull off => decode cc pc = .ok (.ifnonnull off, 3) ∧ 0 ≤ (pc : Int) + off
  | i => decode cc pc = .ok (i, im_len i)
def im_isinv (i : Instr) : Bool := match i with
  | .invokevirtual _ | .invokespecial _ | .invokestatic _ => true
  | _ => false
section IMS
variable {p : Program} {l : Launch} {e : Env} {R : Room} {s : State} {m : MethodId} {args : Array Value} {below : List Frame} {meth : Method} {c : Code} {Q : State → Prop}
variable {D : va_G} {cl : List vw_C} {tys : List (ClassId × FieldType)} {B b : Nat}
/-- the receiver of a call, where it has one -/
def im_Rc (i : Instr) (y n : Nat) (vs : List Value) (h : im_H) : Prop := match i with
  | .invokevirtual _ => 0 < n → ∃ (o : Nat) (fs us : List Value), vs = .ref o :: us ∧ h[o]? = some (.inr (y / 64, fs))
  | .invokespecial _ => 0 < n → ∃ (o : Nat) (us : List Value), vs = .ref o :: us
  | _ => True
/-- what a call needs: where it stands, and what comes behind it -/
def im_Site (p : Program) (l : Launch) (e : Env) (R : Room) (s : State) (m : MethodId) (args : Array Value) (below : List Frame) (meth : Method) (c : Code) (Q : State → Prop) (D : va_G) (cl : List vw_C) (tys : List (ClassId × FieldType)) (B b : Nat) (call : im_F) (x : im_X) (pc : Nat) : Prop :=
  ∀ (vs rest : List Value) (h : im_H) (r : Option Value) (h' : im_H) (H : Heap) (locs : List Loc) (cells slots : Nat) (ls : Array Slot),
    call x.2.1 vs h = some (r, h') → vs.length = x.2.2 → im_Rc x.1 x.2.1 x.2.2 vs h → (rest.map fun v => v.category).sum ≤ 8 → im_W D cl tys B b h H → va_S (fun q => B ≤ q) s.heap H locs → ls.size = c.maxLocals →
    cells + (h'.length - h.length) ≤ R.cells → slots + (im_sz h' - im_sz h) ≤ R.slots →
    (∀ (H1 : Heap) (locs1 : List Loc), im_W D cl tys B b h' H1 → va_S (fun q => B ≤ q) s.heap H1 locs1 →
      W p l e R s m args below meth c H1 locs1 (cells + (h'.length - h.length)) (slots + (im_sz h' - im_sz h)) Q (F0 m (pc + 3) ls (r.toList.map (im_rv B b) ++ rest))) →
    W p l e R s m args below meth c H locs cells slots Q (F0 m pc ls ((vs.map (im_rv B b)).reverse ++ rest))
/-- where a method ends -/
def im_End (cc : ByteArray) (ret : Option FieldType) (pc : Nat) (r : Option Value) : Prop :=
  (∃ (v : Int32) (ty : FieldType), r = some (.int v) ∧ ret = some ty ∧ im_fit ty (.int v) = true ∧ decode cc pc = .ok (.ireturn, 1)) ∨ (∃ v : Value, r = some v ∧ im_isref v = true ∧ im_isrt ret = true ∧ decode cc pc = .ok (.areturn, 1)) ∨ (r = none ∧ ret = none ∧ decode cc pc = .ok (.return_, 1))
theorem im_rcv_some {ci : Option Nat} {v : Option Value} {h : im_H} (hr : im_rcv ci v h = true) : ∃ o : Nat, v = some (.ref o) ∧ ∀ k, ci = some k → ∃ fs, h[o]? = some (.inr (k, fs)) := by
  unfold im_rcv at hr
  split at hr
  · rename_i o
    refine ⟨o, rfl, fun k hk => ?_⟩
    subst hk
    dsimp only at hr
    split at hr
    · rename_i cj fs hx
      exact ⟨fs, by rw [hx, of_decide_eq_true hr]⟩
    · cases hr
  · cases hr
theorem im_take_rcv {st : List Value} {n o : Nat} (hn : n ≤ st.length) (h0 : 0 < n) (h : st[n - 1]? = some (.ref o)) : ∃ us : List Value, (st.take n).reverse = .ref o :: us := by
  have hl : (st.take n).reverse[0]? = some (.ref o) := by
    rw [List.getElem?_reverse (by rw [List.length_take]; omega), List.length_take, Nat.min_eq_left hn, List.getElem?_take, if_pos (by omega)]
    rw [show n - 1 - 0 = n - 1 by omega]
    exact h
  cases hz : (st.take n).reverse with
  | nil => rw [hz] at hl; cases hl
  | cons a us => rw [hz] at hl; cases hl; exact ⟨us, rfl⟩
theorem im_out_in {i : Int32} {n : Nat} (h : ¬ im_out i n = true) : vp_in i n := by
  intro hq
  exact h (by unfold im_out; exact decide_eq_true hq)
theorem im_fit_n {ty : FieldType} {v : Value} (h : im_fit ty v = true) : narrow ty (im_rv B b v) = im_rv B b v ∧ fits ty (im_rv B b v) = true := by
  unfold im_fit at h
  split at h
  · exact ⟨rfl, rfl⟩
  · rename_i x
    simp only [Bool.or_eq_true, beq_iff_eq] at h
    rcases h with rfl | rfl
    · exact ⟨show narrow .boolean (.int 0) = .int 0 by decide, show fits .boolean (.int 0) = true by decide⟩
    · exact ⟨show narrow .boolean (.int 1) = .int 1 by decide, show fits .boolean (.int 1) = true by decide⟩
  · rename_i x
    have hx : x.toInt8.toInt32 = x := by simpa using h
    refine ⟨?_, ?_⟩
    · show narrow .byte (.int x) = .int x
      rw [← hx]; exact pk_nb x
    · show fits .byte (.int x) = true
      rw [← hx]; exact pk_fb x
  · exact ⟨rfl, rfl⟩
  · exact ⟨rfl, rfl⟩
  · exact ⟨rfl, rfl⟩
  · exact ⟨rfl, rfl⟩
  · exact ⟨rfl, rfl⟩
  · cases h
theorem im_rf (B b : Nat) (o : Option Nat) : va_rf (o.map fun a => B + a) = im_rv B b (va_rf o) := by cases o <;> rfl
end IMS
end
section
section IMT
variable {p : Program} {l : Launch} {e : Env} {R : Room} {s : State} {m : MethodId} {args : Array Value} {below : List Frame} {meth : Method} {c : Code} {Q : State → Prop} {H : Heap} {locs : List Loc} {cells slots : Nat}
variable {D : va_G} {cl : List vw_C} {tys : List (ClassId × FieldType)} {B b : Nat} {cc : ByteArray} {own : String} {TB : List Jvm.Cond} {F : Nat → List FieldType} {pc : Nat} {ls : Array Slot} {rest : List Value} {h : im_H}
theorem im_P1 {q : Nat × va_E} (hq : va_at D cl q H) : va_P D cl [q] H := by
  intro k z hz
  cases k with
  | zero => cases hz; exact hq
  | succ j => cases hz
theorem im_jmp_some {off : Int} {L : im_L} {st : List Value} {q : im_R} (hs : im_jmp pc off L st h = some q) : (pc : Int) + off = ((((pc : Int) + off).toNat : Nat) : Int) ∧ q = .inl (((pc : Int) + off).toNat, L, st, h) := by
  unfold im_jmp at hs
  split at hs
  · rename_i h1
    exact ⟨(Int.toNat_of_nonneg h1).symm, im_go_some hs⟩
  · cases hs
theorem im_load_some {L : im_L} {i k : Nat} {st : List Value} {q : im_R} (hs : im_load L i pc st h k = some q) : ∃ v : Value, L[i]? = some (some v) ∧ q = .inl (pc, L, v :: st, h) ∧ ((k = 0 ∧ ∃ x, v = .int x) ∨ (k = 1 ∧ ∃ x, v = .long x) ∨ (k = 2 ∧ ((∃ x, v = .ref x) ∨ v = .null ∨ ∃ x, v = .retAddr x))) := by
  unfold im_load at hs
  split at hs
  · rename_i hx; exact ⟨_, hx, im_go_some hs, Or.inl ⟨rfl, _, rfl⟩⟩
  · rename_i hx; exact ⟨_, hx, im_go_some hs, Or.inr (Or.inl ⟨rfl, _, rfl⟩)⟩
  · rename_i hx; exact ⟨_, hx, im_go_some hs, Or.inr (Or.inr ⟨rfl, Or.inl ⟨_, rfl⟩⟩)⟩
  · rename_i hx; exact ⟨_, hx, im_go_some hs, Or.inr (Or.inr ⟨rfl, Or.inr (Or.inl rfl)⟩)⟩
  · rename_i hx; exact ⟨_, hx, im_go_some hs, Or.inr (Or.inr ⟨rfl, Or.inr (Or.inr ⟨_, rfl⟩)⟩)⟩
  · cases hs
theorem im_store_some {L : im_L} {i k : Nat} {st : List Value} {q : im_R} (hs : im_store L i pc st h k = some q) : ∃ (v : Value) (r : List Value) (L' : im_L), st = v :: r ∧ q = .inl (pc, L', r, h) ∧ ((k = 0 ∧ (∃ x, v = .int x) ∧ im_s1 L i v = some L') ∨ (k = 1 ∧ (∃ x, v = .long x) ∧ im_s2 L i v = some L') ∨ (k = 2 ∧ ((∃ x, v = .ref x) ∨ v = .null) ∧ im_s1 L i v = some L')) := by
  unfold im_store at hs
  split at hs
  · obtain ⟨L', h1, h2⟩ := Option.bind_eq_some_iff.mp hs
    exact ⟨_, _, L', rfl, im_go_some h2, Or.inl ⟨rfl, ⟨_, rfl⟩, h1⟩⟩
  · obtain ⟨L', h1, h2⟩ := Option.bind_eq_some_iff.mp hs
    exact ⟨_, _, L', rfl, im_go_some h2, Or.inr (Or.inl ⟨rfl, ⟨_, rfl⟩, h1⟩)⟩
  · obtain ⟨L', h1, h2⟩ := Option.bind_eq_some_iff.mp hs
    exact ⟨_, _, L', rfl, im_go_some h2, Or.inr (Or.inr ⟨rfl, Or.inl ⟨_, rfl⟩, h1⟩)⟩
  · obtain ⟨L', h1, h2⟩ := Option.bind_eq_some_iff.mp hs
    exact ⟨_, _, L', rfl, im_go_some h2, Or.inr (Or.inr ⟨rfl, Or.inr rfl, h1⟩)⟩
  · cases hs
theorem im_s1_len {L L' : im_L} {i : Nat} {v : Value} (hs : im_s1 L i v = some L') : L'.length = L.length := by
  rw [(im_s1_some hs).2.2, List.length_set]
theorem im_s2_len {L L' : im_L} {i : Nat} {v : Value} (hs : im_s2 L i v = some L') : L'.length = L.length := by
  rw [(im_s2_some hs).2.2, List.length_set, List.length_set]
/-- a field is read -/
theorem im_rget (hexec : p.tables.exec = Jvm.exec) (hb : c.code = cc) (hown : s.vm.findClass own = some m.cls) (hK : im_K TB D cl tys s) (hcl : im_cls TB F cl) {ci k idx o : Nat} {C : String} {Tt : u_T} {N : Nat} (hc : cl[ci]? = some (C, Tt, N)) (hk : k < N) (hlk : im_lk TB own idx (Tt k)) {fs : List Value} (hW : im_W D cl tys B b h H) (ho : h[o]? = some (.inr (ci, fs))) {v : Value} (hv : fs[k]? = some v) (hdg : decode cc pc = .ok (.getfield idx, 3))
    (kk : W p l e R s m args below meth c H locs cells slots Q (F0 m (pc + 3) ls (im_rv B b v :: rest))) : W p l e R s m args below meth c H locs cells slots Q (F0 m pc ls (.ref (B + o) :: rest)) := by
  have hts : ∀ w ∈ TB, w.before args s = true := fun w hw => hK.1 w hw args
  have hin := (hcl ci C Tt N hc).1
  have hP := im_P1 (hW.2 o _ ho (im_lvo hc))
  have hv' : (fs.map (im_rv B b))[k]? = some (im_rv B b v) := by rw [List.getElem?_map, hv]; rfl
  rcases hlk with hl | ⟨host, hl⟩
  · exact va_get (own := own) (ref := (Tt k).1) hexec hb hts hin hown hK.2 hP 0 rfl hc k hk (hts _ hl) (fun _ q => q) hv' hdg kk
  · exact va_getN (own := own) (ref := (Tt k).1) (host := host) hexec hb hts hin hown hK.2 hP 0 rfl hc k hk (hts _ hl) (fun _ q => q) hv' hdg kk
/-- a field is written -/
theorem im_rput (hexec : p.tables.exec = Jvm.exec) (hb : c.code = cc) (hown : s.vm.findClass own = some m.cls) (hK : im_K TB D cl tys s) (hcl : im_cls TB F cl) {ci k idx o : Nat} {C : String} {Tt : u_T} {N : Nat} (hc : cl[ci]? = some (C, Tt, N)) (hk : k < N)
    (hlk : ((Tt k).2.2.2 = false ∧ im_lk TB own idx (Tt k)) ∨ ((Tt k).2.2.2 = true ∧ meth.name = "<init>" ∧ (Tt k).1 = own ∧ Jvm.Cond.fieldLink own idx (Tt k).1 (Tt k).2.1 (Tt k).2.2.1 ∈ TB)) {fs : List Value} (hW : im_W D cl tys B b h H) (hS : va_S (fun q => B ≤ q) s.heap H locs) (ho : h[o]? = some (.inr (ci, fs))) {v : Value} (hl : k < fs.length) {ty : FieldType} (hty : (F ci)[k]? = some ty) (hfit : im_fit ty v = true) (hdg : decode cc pc = .ok (.putfield idx, 3))
    (kk : ∀ (H1 : Heap) (locs1 : List Loc), im_W D cl tys B b (h.set o (.inr (ci, fs.set k v))) H1 → va_S (fun q => B ≤ q) s.heap H1 locs1 → W p l e R s m args below meth c H1 locs1 cells slots Q (F0 m (pc + 3) ls rest)) : W p l e R s m args below meth c H locs cells slots Q (F0 m pc ls (im_rv B b v :: .ref (B + o) :: rest)) := by
  have hts : ∀ w ∈ TB, w.before args s = true := fun w hw => hK.1 w hw args
  obtain ⟨hin, hlen, hpf, hnm⟩ := hcl ci C Tt N hc
  have hd : parseFieldDescriptor (Tt k).2.2.1 = some ty := (hpf k hk).trans hty
  obtain ⟨hn, hf⟩ := im_fit_n (B := B) (b := b) hfit
  have hpt : ∀ j, j < N → parseFieldDescriptor (Tt j).2.2.1 = some ((F ci).getD j .int) := by
    intro j hj
    rw [hpf j hj, List.getD_eq_getElem?_getD, List.getElem?_eq_getElem (by omega)]
    rfl
  have hap := va_apart (own := own) hts hin (fun j => (F ci).getD j .int) hpt hnm hK.2 hc
  obtain ⟨r, h1, cell, q1, q2, q3, q4⟩ := hW.2 o _ ho (im_lvo hc)
  have hr : r = (C, Tt, N) := Option.some.inj (h1.symm.trans hc)
  subst hr
  obtain ⟨hSl, hfc, kC, hkC, hkind⟩ := hK.2.1 ci _ hc
  obtain ⟨cf, kf, fi, f, hi, hsl⟩ := hSl k hk
  have hst := (u_facts hfc hkC (u_lays hts hin hk) hi).1
  have hset : (fs.map (im_rv B b)).set k (im_rv B b v) = (fs.set k v).map (im_rv B b) := by rw [List.map_set]
  have fin : ∀ H' : Heap, H'[B + o]? = some (cell.setSlot f.slot (im_rv B b v)) → H'.size = H.size → (∀ q, q ≠ B + o → H'[q]? = H[q]?) → W p l e R s m args below meth c H' (locs ++ [⟨B + o, f.slot⟩]) cells slots Q (F0 m (pc + 3) ls rest) := by
    intro H' e1 e2 e3
    rw [hsl] at e1 ⊢
    refine kk H' _ (hW.set (fun _ => show va_at D cl (B + o, .inr (ci, (fs.set k v).map (im_rv B b))) H' from ?_) e2 e3) (hS.put e2 e3 (Nat.le_add_right _ _))
    rw [← hset]
    exact ⟨_, hc, t_OB.to (V := updV (vp_V (fs.map (im_rv B b))) k (im_rv B b v)) ⟨_, e1, q2, q3, t_set q4 hap hk _⟩ (fun j _ => vp_updV_set (by rw [List.length_map]; exact hl) _ j)⟩
  rcases hlk with ⟨hfin, hlk⟩ | ⟨hfin, hin2, hdecl, hlk⟩
  · have hlay := hts _ (hin _ (u_in_lay hk))
    unfold u_lay at hlay
    rw [if_neg (by rw [hfin]; decide)] at hlay
    have h6 := u_store hfc hkC hkind hlay hi hd hn hf
    rcases hlk with hl1 | ⟨host, hl1⟩
    · exact W.putK hexec hb (f := f) ⟨hown, hts _ hl1, ⟨_, _, _, hi⟩, hst⟩ (by rw [q2]; exact h6) q1 q3 (by rw [hsl]; exact k2_hasslot (q4 k hk)) rfl rfl hdg fin
    · exact va_WputK hexec hb (f := f) (host := host) hown (hts _ hl1) hi hst (by rw [q2]; exact h6) q1 q3 (by rw [hsl]; exact k2_hasslot (q4 k hk)) rfl rfl hdg fin
  · have hlay := hts _ (hin _ (u_in_lay hk))
    unfold u_lay at hlay
    rw [if_pos hfin] at hlay
    have hcf : m.cls = cf := by
      obtain ⟨_, _, c', _, _, _, -, -, hf', -, -, -, hown2, -⟩ := Cond.laysFinal_spec hlay
      have e1 : c' = cf := by have := hi.symm.trans hf'; simp at this; exact this.1.symm
      rw [hdecl] at hown2
      rw [← e1]; exact Option.some.inj (hown.symm.trans hown2)
    have h6 := u_fits hfc hkC hkind (Or.inr hlay) hi hd hn hf
    exact W.putFinK hexec hb hown (hts _ hlk) hi hst hcf hin2 (by rw [q2]; exact h6) q1 q3 (by rw [hsl]; exact k2_hasslot (q4 k hk)) rfl rfl hdg fin
theorem im_rset {D : va_G} {cl : List vw_C} {a : Nat} {cA : ClassId} {n : Nat} {x : vp_A} {H1 : Heap} (e : H1[a]? = some (vp_cell cA x)) : va_at D cl (a, .inl (cA, x)) H1 := e
theorem im_riast (hexec : p.tables.exec = Jvm.exec) (hb : c.code = cc) (hK : im_K TB D cl tys s) (hki : im_kinds cl tys) {o n : Nat} {f : Nat → Int32} (hW : im_W D cl tys B b h H) (hS : va_S (fun q => B ≤ q) s.heap H locs) (ho : h[o]? = some (.inl (0, n, .inl f))) {i x : Int32} (hin : vp_in i n) (hdg : decode cc pc = .ok (.iastore, 1))
    (kk : ∀ (H1 : Heap) (locs1 : List Loc), im_W D cl tys B b (h.set o (.inl (0, n, .inl (upd f i.toNatClampNeg x)))) H1 → va_S (fun q => B ≤ q) s.heap H1 locs1 → W p l e R s m args below meth c H1 locs1 cells slots Q (F0 m (pc + 1) ls rest)) : W p l e R s m args below meth c H locs cells slots Q (F0 m pc ls (.int x :: .int i :: .ref (B + o) :: rest)) := by
  have ht := hki 0 .int rfl
  refine W.iast hexec hb (hW.2 o _ ho trivial) ((hK.2.2 0 _ ht).1 n (fun j => .int (f j))) (fun q => by cases q) (by show ¬ (i < 0 ∨ (arrV _ _ _).slots.size ≤ _); rw [arrV_size]; exact hin) rfl rfl hdg fun H1 e z oq => ?_
  refine kk H1 _ (hW.set (fun _ => show va_at D cl (B + o, .inl (im_tc tys 0, n, .inl (upd f i.toNatClampNeg x))) H1 from ?_) z oq) (hS.put z oq (Nat.le_add_right _ _))
  show H1[B + o]? = some (vp_cell _ _)
  rw [e]
  show some ((vp_cell _ (n, .inl f)).setSlot _ _) = _
  rw [vp_cell_i, vp_cell_i, arrV_store]
  congr 2
  funext q
  by_cases hq : q = i.toNatClampNeg
  · subst hq
    simp [updV, upd]
  · simp [updV, upd, hq]
theorem im_rbast (hexec : p.tables.exec = Jvm.exec) (hb : c.code = cc) (hK : im_K TB D cl tys s) (hki : im_kinds cl tys) {o n : Nat} {f : Nat → Int32} (hW : im_W D cl tys B b h H) (hS : va_S (fun q => B ≤ q) s.heap H locs) (ho : h[o]? = some (.inl (1, n, .inl f))) {i x : Int32} (hin : vp_in i n) (hdg : decode cc pc = .ok (.bastore, 1))
    (kk : ∀ (H1 : Heap) (locs1 : List Loc), im_W D cl tys B b (h.set o (.inl (1, n, .inl (upd f i.toNatClampNeg x.toInt8.toInt32)))) H1 → va_S (fun q => B ≤ q) s.heap H1 locs1 → W p l e R s m args below meth c H1 locs1 cells slots Q (F0 m (pc + 1) ls rest)) : W p l e R s m args below meth c H locs cells slots Q (F0 m pc ls (.int x :: .int i :: .ref (B + o) :: rest)) := by
  have ht := hki 1 .byte rfl
  refine W.bast hexec hb (hW.2 o _ ho trivial) ((hK.2.2 1 _ ht).1 n (fun j => .int (f j))) (fun q => by cases q) (by show ¬ (i < 0 ∨ (arrV _ _ _).slots.size ≤ _); rw [arrV_size]; exact hin) rfl rfl hdg fun H1 e z oq => ?_
  refine kk H1 _ (hW.set (fun _ => show va_at D cl (B + o, .inl (im_tc tys 1, n, .inl (upd f i.toNatClampNeg x.toInt8.toInt32))) H1 from ?_) z oq) (hS.put z oq (Nat.le_add_right _ _))
  show H1[B + o]? = some (vp_cell _ _)
  rw [e]
  show some ((vp_cell _ (n, .inl f)).setSlot _ _) = _
  rw [vp_cell_i, vp_cell_i, arrV_store]
  congr 2
  funext q
  by_cases hq : q = i.toNatClampNeg
  · subst hq
    simp [updV, upd]
    rfl
  · simp [updV, upd, hq]
theorem im_rlast (hexec : p.tables.exec = Jvm.exec) (hb : c.code = cc) (hK : im_K TB D cl tys s) (hki : im_kinds cl tys) {o n : Nat} {f : Nat → Int64} (hW : im_W D cl tys B b h H) (hS : va_S (fun q => B ≤ q) s.heap H locs) (ho : h[o]? = some (.inl (2, n, .inr (.inl f)))) {i : Int32} {x : Int64} (hin : vp_in i n) (hdg : decode cc pc = .ok (.lastore, 1))
    (kk : ∀ (H1 : Heap) (locs1 : List Loc), im_W D cl tys B b (h.set o (.inl (2, n, .inr (.inl (vp_updL f i.toNatClampNeg x))))) H1 → va_S (fun q => B ≤ q) s.heap H1 locs1 → W p l e R s m args below meth c H1 locs1 cells slots Q (F0 m (pc + 1) ls rest)) : W p l e R s m args below meth c H locs cells slots Q (F0 m pc ls (.long x :: .int i :: .ref (B + o) :: rest)) := by
  have ht := hki 2 .long rfl
  refine W.last hexec hb (hW.2 o _ ho trivial) ((hK.2.2 2 _ ht).1 n (fun j => .long (f j))) (fun q => by cases q) (by show ¬ (i < 0 ∨ (arrV _ _ _).slots.size ≤ _); rw [arrV_size]; exact hin) rfl rfl hdg fun H1 e z oq => ?_
  refine kk H1 _ (hW.set (fun _ => show va_at D cl (B + o, .inl (im_tc tys 2, n, .inr (.inl (vp_updL f i.toNatClampNeg x)))) H1 from ?_) z oq) (hS.put z oq (Nat.le_add_right _ _))
  show H1[B + o]? = some (vp_cell _ _)
  rw [e]
  show some ((vp_cell _ (n, .inr (.inl f))).setSlot _ _) = _
  rw [vp_cell_l, vp_cell_l, arrV_store]
  congr 2
  funext q
  by_cases hq : q = i.toNatClampNeg
  · subst hq
    simp [updV, vp_updL]
  · simp [updV, vp_updL, hq]
theorem im_raast (hexec : p.tables.exec = Jvm.exec) (hb : c.code = cc) (hK : im_K TB D cl tys s) (hki : im_kinds cl tys) {o n v ci : Nat} {r : vw_C} (hc : cl[ci]? = some r) {vs : List Value} {f : Nat → Option Nat} (hW : im_W D cl tys B b h H) (hS : va_S (fun q => B ≤ q) s.heap H locs) (ho : h[o]? = some (.inl (3 + ci, n, .inr (.inr (.inr (.inr f)))))) (hv : h[v]? = some (.inr (ci, vs))) {i : Int32} (hin : vp_in i n) (hdg : decode cc pc = .ok (.aastore, 1))
    (kk : ∀ (H1 : Heap) (locs1 : List Loc), im_W D cl tys B b (h.set o (.inl (3 + ci, n, .inr (.inr (.inr (.inr (va_up f i.toNatClampNeg (some v)))))))) H1 → va_S (fun q => B ≤ q) s.heap H1 locs1 → W p l e R s m args below meth c H1 locs1 cells slots Q (F0 m (pc + 1) ls rest)) : W p l e R s m args below meth c H locs cells slots Q (F0 m pc ls (.ref (B + v) :: .int i :: .ref (B + o) :: rest)) := by
  have h0 : ¬ i < 0 := fun q => hin (Or.inl q)
  have hlt : i.toNatClampNeg < n := Nat.not_le.mp fun q => hin (Or.inr q)
  obtain ⟨r', hc', cellV, g1, g2, g3, -⟩ := hW.2 v _ hv (im_lvo hc)
  have ht : tys[3 + ci]? = some (im_tc tys (3 + ci), .object r.1) := hki (3 + ci) (.object r.1) (by rw [Nat.add_comm]; show (cl[ci]?).map _ = _; rw [hc]; rfl)
  have hcls := (hK.2.1 ci r hc).2
  obtain ⟨kA, comp, k1, k2, k3, -⟩ := (hK.2.2 (3 + ci) _ ht).2
  have hcomp : comp = D.1 ci := Option.some.inj (k3.symm.trans hcls.1)
  subst hcomp
  obtain ⟨kC, hkC, -⟩ := hcls.2
  refine W.aast hexec hb (hW.2 o _ ho trivial) (fun q h => by cases h) (fun h => by cases h) k1 k2 rfl hkC ⟨h0, by show _ < (arrV _ _ _).slots.size; rw [arrV_size]; exact hlt⟩ g1 (fun q h => by rw [g3] at h; cases h) (by rw [g2]; exact hkC) (by rw [g2]; exact va_assign hcls) rfl rfl hdg fun H1 e z oq => ?_
  refine kk H1 _ (hW.set (fun _ => show va_at D cl (B + o, .inl (im_tc tys (3 + ci), n, .inr (.inr (.inr (.inr (fun j => (va_up f i.toNatClampNeg (some v) j).map (fun a => B + a)))))) ) H1 from ?_) z oq) (hS.put z oq (Nat.le_add_right _ _))
  show H1[B + o]? = some (vp_cell _ _)
  rw [e]
  show some ((vp_cell _ (n, .inr (.inr (.inr (.inr (fun j => (f j).map (fun a => B + a))))))).setSlot _ _) = _
  rw [vp_cell_q, vp_cell_q, arrV_store]
  congr 2
  funext q
  by_cases hq : q = i.toNatClampNeg
  · subst hq
    simp [updV, va_up, va_rf]
  · simp [updV, va_up, hq]
theorem im_rnew (hexec : p.tables.exec = Jvm.exec) (hb : c.code = cc) (hown : s.vm.findClass own = some m.cls) (hK : im_K TB D cl tys s) (hcl : im_cls TB F cl) {ci idx : Nat} {C : String} {Tt : u_T} {N : Nat} (hc : cl[ci]? = some (C, Tt, N)) (hl1 : Jvm.Cond.classLink own idx C ∈ TB) (hl2 : Jvm.Cond.instantiable C N ∈ TB) (hl3 : Jvm.Cond.initialized C ∈ TB)
    (hW : im_W D cl tys B b h H) (hB : B ≤ s.heap.size) (hS : va_S (fun q => B ≤ q) s.heap H locs) (hcells : cells + 1 ≤ R.cells) (hslots : slots + N ≤ R.slots) (hdg : decode cc pc = .ok (.new idx, 3))
    (kk : ∀ (H1 : Heap), im_W D cl tys B b (h ++ [.inr (ci, (F ci).map defaultValue)]) H1 → va_S (fun q => B ≤ q) s.heap H1 locs → W p l e R s m args below meth c H1 locs (cells + 1) (slots + N) Q (F0 m (pc + 3) ls (.ref (B + h.length) :: rest))) : W p l e R s m args below meth c H locs cells slots Q (F0 m pc ls rest) := by
  have hts : ∀ w ∈ TB, w.before args s = true := fun w hw => hK.1 w hw args
  obtain ⟨hin, hlen, hpf, hnm⟩ := hcl ci C Tt N hc
  have hpt : ∀ j, j < N → parseFieldDescriptor (Tt j).2.2.1 = some ((F ci).getD j .int) := by
    intro j hj
    rw [hpf j hj, List.getD_eq_getElem?_getD, List.getElem?_eq_getElem (by omega)]
    rfl
  have hKn := hK.2.1 ci _ hc
  refine W.newcK hexec hb hown (hts _ hl1) (hts _ hl2) (hts _ hl3) rfl hdg hcells hslots hKn.2.1 hW.1 fun H1 kC hkC e1 z1 o1 => ?_
  have hz : H1.size = H.size + 1 := by rw [z1, hW.1]
  have ho : ∀ q : Nat, q < H.size → H1[q]? = H[q]? := fun q hq => o1 q (by rw [← hW.1]; exact hq)
  refine kk H1 (hW.push (x := .inr (ci, (F ci).map defaultValue)) (fun _ => ⟨_, hc, (u_born (fun j => (F ci).getD j .int) hts hin hKn hkC e1 hpt).to (fun j hj => ?_)⟩) hz ho) ⟨Nat.le_trans hS.1 (by omega), fun x h1 h2 => (ho x (Nat.lt_of_lt_of_le h1 hS.1)).trans (hS.2.1 x h1 h2), hS.2.2⟩
  have hj' : j < (F ci).length := by rw [hlen]; exact hj
  show defaultValue ((F ci).getD j .int) = vp_V (((F ci).map defaultValue).map (im_rv B b)) j
  unfold vp_V
  rw [List.getD_eq_getElem?_getD, List.getD_eq_getElem?_getD, List.getElem?_map, List.getElem?_map, List.getElem?_eq_getElem hj']
  show defaultValue _ = im_rv B b (defaultValue _)
  cases (F ci)[j] <;> rfl
theorem im_zero_cell {ty : FieldType} {n : Nat} {x : vp_A} (hz : im_zero ty n = some x) (B : Nat) (cA : ClassId) : vp_cell cA (im_ra B x) = arrV cA n (fun _ => defaultValue ty) ∧ x.1 = n := by
  unfold im_zero at hz
  split at hz <;> cases hz <;> exact ⟨rfl, rfl⟩
theorem im_rnewa (hexec : p.tables.exec = Jvm.exec) (hb : c.code = cc) (hK : im_K TB D cl tys s) (hki : im_kinds cl tys) {tk : Nat} {t : ArrayType} (hk : im_kty cl tk = some (newarray.typeOf t)) (hk3 : tk < 3) (hl : Jvm.Cond.arrayClass (newarray.typeOf t) ∈ TB)
    (hW : im_W D cl tys B b h H) (hS : va_S (fun q => B ≤ q) s.heap H locs) {n : Int32} {x : vp_A} (hz : im_zero (newarray.typeOf t) n.toNatClampNeg = some x) (hn : ¬ n < 0) (hbytes : ¬ 536870912 < n.toNatClampNeg * 8) (hcells : cells + 1 ≤ R.cells) (hslots : slots + n.toNatClampNeg ≤ R.slots) (hdg : decode cc pc = .ok (.newarray t, 2))
    (kk : ∀ (H1 : Heap), im_W D cl tys B b (h ++ [.inl (tk, x)]) H1 → va_S (fun q => B ≤ q) s.heap H1 locs → W p l e R s m args below meth c H1 locs (cells + 1) (slots + n.toNatClampNeg) Q (F0 m (pc + 2) ls (.ref (B + h.length) :: rest))) : W p l e R s m args below meth c H locs cells slots Q (F0 m pc ls (.int n :: rest)) := by
  have hcb : n.toNatClampNeg * componentBytes (newarray.typeOf t) ≤ 536870912 := by
    have h8 : componentBytes (newarray.typeOf t) ≤ 8 := by cases t <;> decide
    have := Nat.mul_le_mul_left n.toNatClampNeg h8
    omega
  have ht := hki tk _ hk
  refine va_newaK hexec hb (hK.1 _ hl args) rfl hdg rfl hn rfl hcb hcells hslots hW.1 fun H1 cA e1 z1 o1 hAr hNm => ?_
  have hcA : im_tc tys tk = cA := by
    have h2 := (hK.2.2 tk _ ht).2
    have h3 : s.vm.findClass ("[" ++ (newarray.typeOf t).toString) = some (im_tc tys tk) := by
      cases t <;> exact h2
    exact Option.some.inj (h3.symm.trans hNm)
  have hzz : H1.size = H.size + 1 := by rw [z1, hW.1]
  have ho : ∀ q : Nat, q < H.size → H1[q]? = H[q]? := fun q hq => o1 q (by rw [← hW.1]; exact hq)
  refine kk H1 (hW.push (x := .inl (tk, x)) (fun _ => show va_at D cl (B + h.length, .inl (im_tc tys tk, im_ra B x)) H1 from ?_) hzz ho) ⟨Nat.le_trans hS.1 (by omega), fun x h1 h2 => (ho x (Nat.lt_of_lt_of_le h1 hS.1)).trans (hS.2.1 x h1 h2), hS.2.2⟩
  show H1[B + h.length]? = some (vp_cell _ _)
  rw [(im_zero_cell hz B _).1, hcA]
  exact e1
theorem im_rnewr (hexec : p.tables.exec = Jvm.exec) (hb : c.code = cc) (hown : s.vm.findClass own = some m.cls) (hK : im_K TB D cl tys s) (hki : im_kinds cl tys) {ci idx : Nat} {C : String} {Tt : u_T} {N : Nat} (hc : cl[ci]? = some (C, Tt, N)) (hl1 : Jvm.Cond.classLink own idx C ∈ TB) (hl2 : Jvm.Cond.arrayOver (.object C) ∈ TB)
    (hW : im_W D cl tys B b h H) (hS : va_S (fun q => B ≤ q) s.heap H locs) {n : Int32} (hn : ¬ n < 0) (hbytes : ¬ 536870912 < n.toNatClampNeg * 8) (hcells : cells + 1 ≤ R.cells) (hslots : slots + n.toNatClampNeg ≤ R.slots) (hdg : decode cc pc = .ok (.anewarray idx, 3))
    (kk : ∀ (H1 : Heap), im_W D cl tys B b (h ++ [.inl (3 + ci, n.toNatClampNeg, .inr (.inr (.inr (.inr (fun _ => none)))))]) H1 → va_S (fun q => B ≤ q) s.heap H1 locs → W p l e R s m args below meth c H1 locs (cells + 1) (slots + n.toNatClampNeg) Q (F0 m (pc + 3) ls (.ref (B + h.length) :: rest))) : W p l e R s m args below meth c H locs cells slots Q (F0 m pc ls (.int n :: rest)) := by
  have ht : tys[3 + ci]? = some (im_tc tys (3 + ci), .object C) := hki (3 + ci) (.object C) (by rw [Nat.add_comm]; show (cl[ci]?).map _ = _; rw [hc]; rfl)
  refine W.anew hexec hb hown (hK.1 _ hl1 args) (hK.1 _ hl2 args) rfl hdg rfl hn (by omega) hcells hslots fun cA kA comp h1 h2 h3 h4 => ?_
  obtain ⟨kA', comp', k1, k2, k3, k4⟩ := (hK.2.2 (3 + ci) _ ht).2
  have hcA : im_tc tys (3 + ci) = cA := Option.some.inj (k4.symm.trans h1)
  have hsz : (H.push { cls := cA, slots := Array.replicate n.toNatClampNeg .null, vm := .none } : Heap).size = H.size + 1 := by simp
  have ho : ∀ q : Nat, q < H.size → (H.push { cls := cA, slots := Array.replicate n.toNatClampNeg .null, vm := .none } : Heap)[q]? = H[q]? := by
    intro q hq
    rw [Array.getElem?_push, if_neg (Nat.ne_of_lt hq)]
  have hk := kk (H.push { cls := cA, slots := Array.replicate n.toNatClampNeg .null, vm := .none }) (hW.push (x := .inl (3 + ci, n.toNatClampNeg, .inr (.inr (.inr (.inr (fun _ => none)))))) (fun _ => show va_at D cl (B + h.length, .inl (im_tc tys (3 + ci), n.toNatClampNeg, .inr (.inr (.inr (.inr (fun j => (none : Option Nat).map (fun a => B + a))))))) _ from ?_) hsz ho) ⟨Nat.le_trans hS.1 (by omega), fun x h1 h2 => (ho x (Nat.lt_of_lt_of_le h1 hS.1)).trans (hS.2.1 x h1 h2), hS.2.2⟩
  · rw [hW.1]; exact hk
  · show (H.push _ : Heap)[B + h.length]? = some (vp_cell _ _)
    rw [← hW.1, hcA, vp_cell_q]
    simp only [Array.getElem?_push_size]
    show some _ = some (arrV _ _ _)
    congr 1
    simp only [arrV]
    congr 1
    apply Array.ext
    · simp
    · intro j h1 h2
      simp [va_rf]
end IMT
end
section
section IMU
variable {p : Program} {l : Launch} {e : Env} {R : Room} {s : State} {m : MethodId} {args : Array Value} {below : List Frame} {meth : Method} {c : Code} {Q : State → Prop} {H : Heap} {locs : List Loc}
variable {D : va_G} {cl : List vw_C} {tys : List (ClassId × FieldType)} {B b : Nat} {cc : ByteArray} {own mn : String} {TB : List Jvm.Cond} {T : im_T} {pc : Nat} {ls : Array Slot} {h : im_H}
theorem im_bin_W {cells slots : Nat} (hexec : p.tables.exec = Jvm.exec) (hb : c.code = cc) {i : Instr} {x y z : Int32} {rest : List Value} (hz : im_bin i x y = some z) (hdg : decode cc pc = .ok (i, 1)) (kk : W p l e R s m args below meth c H locs cells slots Q (F0 m (pc + 1) ls (.int z :: rest))) : W p l e R s m args below meth c H locs cells slots Q (F0 m pc ls (.int y :: .int x :: rest)) := by
  unfold im_bin at hz
  split at hz
  · cases hz; exact lv_iadd hexec hb hdg kk
  · cases hz; exact lv_isub hexec hb hdg kk
  · cases hz; exact lv_imul hexec hb hdg kk
  · cases hz; exact lv_iand hexec hb hdg kk
  · cases hz; exact lv_ior hexec hb hdg kk
  · cases hz; exact lv_ixor hexec hb hdg kk
  · cases hz; exact lv_ishl hexec hb hdg kk
  · cases hz; exact lv_ishr hexec hb hdg kk
  · cases hz; exact lv_iushr hexec hb hdg rfl kk
  · split at hz
    · cases hz
    · rename_i hne
      cases hz; exact lv_idiv hexec hb hdg hne kk
  · split at hz
    · cases hz
    · rename_i hne
      cases hz; exact lv_irem hexec hb hdg hne kk
  · cases hz
theorem im_lbin_W {cells slots : Nat} (hexec : p.tables.exec = Jvm.exec) (hb : c.code = cc) {i : Instr} {x y z : Int64} {rest : List Value} (hz : im_lbin i x y = some z) (hdg : decode cc pc = .ok (i, 1)) (kk : W p l e R s m args below meth c H locs cells slots Q (F0 m (pc + 1) ls (.long z :: rest))) : W p l e R s m args below meth c H locs cells slots Q (F0 m pc ls (.long y :: .long x :: rest)) := by
  unfold im_lbin at hz
  split at hz
  · cases hz; exact lv_ladd hexec hb hdg kk
  · cases hz; exact lv_lsub hexec hb hdg kk
  · cases hz; exact lv_lmul hexec hb hdg kk
  · split at hz
    · cases hz
    · rename_i hne
      cases hz; exact lv_ldiv hexec hb hdg hne kk
  · split at hz
    · cases hz
    · rename_i hne
      cases hz; exact lv_lrem hexec hb hdg hne kk
  · cases hz
theorem im_icmp_W {cells slots : Nat} (hexec : p.tables.exec = Jvm.exec) (hb : c.code = cc) {cd : ClassFile.Cond} {x y : Int32} {rest : List Value} {off : Int} {tgt : Nat} (hdg : decode cc pc = .ok (.if_icmp cd off, 3)) (ht : (pc : Int) + off = (tgt : Int))
    (kt : im_cmp cd x y = true → W p l e R s m args below meth c H locs cells slots Q (F0 m tgt ls rest)) (kf : ¬ im_cmp cd x y = true → W p l e R s m args below meth c H locs cells slots Q (F0 m (pc + 3) ls rest)) : W p l e R s m args below meth c H locs cells slots Q (F0 m pc ls (.int y :: .int x :: rest)) := by
  cases cd
  · exact lv_icmp_eq hexec hb hdg ht (fun q => kt (decide_eq_true q)) (fun q => kf (by simpa [im_cmp] using q))
  · exact lv_icmp_ne hexec hb hdg ht (fun q => kt (decide_eq_true q)) (fun q => kf (by simpa [im_cmp] using q))
  · exact lv_icmp_lt hexec hb hdg ht (fun q => kt (decide_eq_true q)) (fun q => kf (by simpa [im_cmp] using q))
  · exact lv_icmp_ge hexec hb hdg ht (fun q => kt (decide_eq_true q)) (fun q => kf (by simpa [im_cmp] using q))
  · exact lv_icmp_gt hexec hb hdg ht (fun q => kt (decide_eq_true q)) (fun q => kf (by simpa [im_cmp] using q))
  · exact lv_icmp_le hexec hb hdg ht (fun q => kt (decide_eq_true q)) (fun q => kf (by simpa [im_cmp] using q))
theorem im_if_W {cells slots : Nat} (hexec : p.tables.exec = Jvm.exec) (hb : c.code = cc) {cd : ClassFile.Cond} {x : Int32} {rest : List Value} {off : Int} {tgt : Nat} (hdg : decode cc pc = .ok (.ifCond cd off, 3)) (ht : (pc : Int) + off = (tgt : Int))
    (kt : im_cmp cd x 0 = true → W p l e R s m args below meth c H locs cells slots Q (F0 m tgt ls rest)) (kf : ¬ im_cmp cd x 0 = true → W p l e R s m args below meth c H locs cells slots Q (F0 m (pc + 3) ls rest)) : W p l e R s m args below meth c H locs cells slots Q (F0 m pc ls (.int x :: rest)) := by
  cases cd
  · exact lv_if_eq hexec hb hdg ht (fun q => kt (decide_eq_true q)) (fun q => kf (by simpa [im_cmp] using q))
  · exact lv_if_ne hexec hb hdg ht (fun q => kt (decide_eq_true q)) (fun q => kf (by simpa [im_cmp] using q))
  · exact lv_if_lt hexec hb hdg ht (fun q => kt (decide_eq_true q)) (fun q => kf (by simpa [im_cmp] using q))
  · exact lv_if_ge hexec hb hdg ht (fun q => kt (decide_eq_true q)) (fun q => kf (by simpa [im_cmp] using q))
  · exact lv_if_gt hexec hb hdg ht (fun q => kt (decide_eq_true q)) (fun q => kf (by simpa [im_cmp] using q))
  · exact lv_if_le hexec hb hdg ht (fun q => kt (decide_eq_true q)) (fun q => kf (by simpa [im_cmp] using q))
/-- what stands still in a method's walk: the machine, the code, the tables; the script, where it is read -/
def im_Cx (p : Program) (s : State) (m : MethodId) (meth : Method) (c : Code) (TB : List Jvm.Cond) (D : va_G) (cl : List vw_C) (tys : List (ClassId × FieldType)) (B b : Nat) (T : im_T) (cc : ByteArray) (own mn : String) : Prop :=
  p.tables.exec = Jvm.exec ∧ c.code = cc ∧ s.vm.findClass own = some m.cls ∧ meth.name = mn ∧ im_K TB D cl tys s ∧ im_cls TB T.1 cl ∧ im_kinds cl tys ∧ B ≤ s.heap.size ∧ ∀ q, T.2 = some q → va_X b q.1 q.2 s s.heap ∧ b < B
set_option maxHeartbeats 8000000 in
theorem im_sStep {call : im_F} {ret : Option FieldType} (hup : im_Cup call) (hx0 : im_Cx p s m meth c TB D cl tys B b T cc own mn) {x : im_X} (hd : im_dk cc pc x) (ho : im_ok TB cl own mn x) (hsite : im_isinv x.1 = true → im_Site p l e R s m args below meth c Q D cl tys B b call x pc)
    {L : im_L} {st : List Value} {q : im_R} (hs : im_step T call ret x pc L st h = some q) {n0 s0 : Nat} (hL : im_Lr B b ls L) (hml : L.length = c.maxLocals) (hW : im_W D cl tys B b h H) (hS : va_S (fun q => B ≤ q) s.heap H locs) (hn0 : n0 ≤ h.length) (hs0 : s0 ≤ im_sz h)
    (hcap : (im_hp q).length - n0 ≤ R.cells) (hcap2 : im_sz (im_hp q) - s0 ≤ R.slots)
    (kk : ∀ (pc' : Nat) (L' : im_L) (st' : List Value) (h' : im_H), q = .inl (pc', L', st', h') → ∀ (ls' : Array Slot) (H' : Heap) (locs' : List Loc), im_Lr B b ls' L' → L'.length = L.length → im_W D cl tys B b h' H' → va_S (fun q => B ≤ q) s.heap H' locs' → W p l e R s m args below meth c H' locs' (h'.length - n0) (im_sz h' - s0) Q (F0 m pc' ls' (st'.map (im_rv B b))))
    (kr : ∀ (r : Option Value), q = .inr (r, h) → im_End cc ret pc r → W p l e R s m args below meth c H locs (h.length - n0) (im_sz h - s0) Q (F0 m pc ls (r.toList.map (im_rv B b)))) :
    W p l e R s m args below meth c H locs (h.length - n0) (im_sz h - s0) Q (F0 m pc ls (st.map (im_rv B b))) := by
  obtain ⟨hexec, hb, hown, hmn, hK, hcl, hki, hB, hsc⟩ := hx0
  obtain ⟨i, a1, a2⟩ := x
  have hinv : im_isinv i = true → im_inv call a1 a2 (pc + 3) L st h = some q → (a2 ≤ st.length → im_Rc i a1 a2 (st.take a2).reverse h) → W p l e R s m args below meth c H locs (h.length - n0) (im_sz h - s0) Q (F0 m pc ls (st.map (im_rv B b))) := by
    intro hi hv hrc
    obtain ⟨h1, h2, r, h', h3, rfl⟩ := im_inv_some hv
    have hu := hup _ _ _ _ _ h3
    have hst : st.map (im_rv B b) = ((((st.take a2).reverse).map (im_rv B b)).reverse ++ (st.drop a2).map (im_rv B b)) := by
      rw [List.map_reverse, List.reverse_reverse, ← List.map_append, List.take_append_drop]
    rw [hst]
    have hc1 : h.length - n0 + (h'.length - h.length) = h'.length - n0 := by have := hu.1; omega
    have hc2 : im_sz h - s0 + (im_sz h' - im_sz h) = im_sz h' - s0 := by have := hu.2; omega
    refine hsite hi _ _ h r h' H locs _ _ ls h3 (by rw [List.length_reverse, List.length_take]; exact Nat.min_eq_left h1) (hrc h1) (by rw [im_rv_cats]; exact h2) hW hS (hL.1.1.trans hml) (by rw [hc1]; exact hcap) (by rw [hc2]; exact hcap2) (fun H1 locs1 hW1 hS1 => ?_)
    rw [hc1, hc2, ← List.map_append]
    exact kk _ _ _ _ rfl ls H1 locs1 hL rfl hW1 hS1
  cases i with
  | iconst n =>
    exact lv_iconst hexec hb hd rfl (kk _ _ _ _ (im_go_some hs) ls H locs hL rfl hW hS)
  | bipush n =>
    exact lv_bipush hexec hb hd rfl (kk _ _ _ _ (im_go_some hs) ls H locs hL rfl hW hS)
  | sipush n =>
    exact lv_sipush hexec hb hd rfl (kk _ _ _ _ (im_go_some hs) ls H locs hL rfl hW hS)
  | lconst n =>
    exact lv_lconst hexec hb hd rfl (kk _ _ _ _ (im_go_some hs) ls H locs hL rfl hW hS)
  | ldc2_w n =>
    exact lv_ldc2 hexec hb hown (hK.1 _ ho args) hd (kk _ _ _ _ (im_go_some hs) ls H locs hL rfl hW hS)
  | aconst_null =>
    exact lv_null hexec hb hd (kk _ _ _ _ (im_go_some hs) ls H locs hL rfl hW hS)
  | iload_n n =>
    obtain ⟨v, h1, h2, ⟨-, x, rfl⟩ | ⟨h0, -⟩ | ⟨h0, -⟩⟩ := im_load_some hs
    · exact lv_iload_n hexec hb hd rfl (hL.2 _ _ h1) (kk _ _ _ _ h2 ls H locs hL rfl hW hS)
    · cases h0
    · cases h0
  | iload n =>
    obtain ⟨v, h1, h2, ⟨-, x, rfl⟩ | ⟨h0, -⟩ | ⟨h0, -⟩⟩ := im_load_some hs
    · exact lv_iload hexec hb hd (hL.2 _ _ h1) (kk _ _ _ _ h2 ls H locs hL rfl hW hS)
    · cases h0
    · cases h0
  | lload_n n =>
    obtain ⟨v, h1, h2, ⟨h0, -⟩ | ⟨-, x, rfl⟩ | ⟨h0, -⟩⟩ := im_load_some hs
    · cases h0
    · exact lv_lload_n hexec hb hd rfl (hL.2 _ _ h1) (kk _ _ _ _ h2 ls H locs hL rfl hW hS)
    · cases h0
  | lload n =>
    obtain ⟨v, h1, h2, ⟨h0, -⟩ | ⟨-, x, rfl⟩ | ⟨h0, -⟩⟩ := im_load_some hs
    · cases h0
    · exact lv_lload hexec hb hd (hL.2 _ _ h1) (kk _ _ _ _ h2 ls H locs hL rfl hW hS)
    · cases h0
  | aload_n n =>
    obtain ⟨v, h1, h2, ⟨h0, -⟩ | ⟨h0, -⟩ | ⟨-, ⟨x, rfl⟩ | rfl | ⟨x, rfl⟩⟩⟩ := im_load_some hs
    · cases h0
    · cases h0
    · exact lv_aload_n hexec hb hd rfl (hL.2 _ _ h1) (kk _ _ _ _ h2 ls H locs hL rfl hW hS)
    · exact lv_aload_nN hexec hb hd rfl (hL.2 _ _ h1) (kk _ _ _ _ h2 ls H locs hL rfl hW hS)
    · exact lv_aload_n hexec hb hd rfl (hL.2 _ _ h1) (kk _ _ _ _ h2 ls H locs hL rfl hW hS)
  | aload n =>
    obtain ⟨v, h1, h2, ⟨h0, -⟩ | ⟨h0, -⟩ | ⟨-, ⟨x, rfl⟩ | rfl | ⟨x, rfl⟩⟩⟩ := im_load_some hs
    · cases h0
    · cases h0
    · exact lv_aload hexec hb hd (hL.2 _ _ h1) (kk _ _ _ _ h2 ls H locs hL rfl hW hS)
    · exact lv_aloadN hexec hb hd (hL.2 _ _ h1) (kk _ _ _ _ h2 ls H locs hL rfl hW hS)
    · exact lv_aload hexec hb hd (hL.2 _ _ h1) (kk _ _ _ _ h2 ls H locs hL rfl hW hS)
  | istore_n n =>
    obtain ⟨v, r, L', rfl, h2, ⟨-, ⟨x, rfl⟩, h3⟩ | ⟨h0, -⟩ | ⟨h0, -⟩⟩ := im_store_some hs
    · exact lv_istore_n hexec hb hd rfl hL.has (im_s1_some h3).1 rfl (fun ls' hl => kk _ _ _ _ h2 ls' H locs (im_Lr.s1 h3 rfl hl) (im_s1_len h3) hW hS)
    · cases h0
    · cases h0
  | istore n =>
    obtain ⟨v, r, L', rfl, h2, ⟨-, ⟨x, rfl⟩, h3⟩ | ⟨h0, -⟩ | ⟨h0, -⟩⟩ := im_store_some hs
    · exact lv_istore hexec hb hd hL.has (im_s1_some h3).1 rfl (fun ls' hl => kk _ _ _ _ h2 ls' H locs (im_Lr.s1 h3 rfl hl) (im_s1_len h3) hW hS)
    · cases h0
    · cases h0
  | lstore_n n =>
    obtain ⟨v, r, L', rfl, h2, ⟨h0, -⟩ | ⟨-, ⟨x, rfl⟩, h3⟩ | ⟨h0, -⟩⟩ := im_store_some hs
    · cases h0
    · exact lv_lstore_n hexec hb hd rfl hL.has (im_s2_some h3).1 rfl (fun ls' hl => kk _ _ _ _ h2 ls' H locs (im_Lr.s2 h3 rfl hl) (im_s2_len h3) hW hS)
    · cases h0
  | lstore n =>
    obtain ⟨v, r, L', rfl, h2, ⟨h0, -⟩ | ⟨-, ⟨x, rfl⟩, h3⟩ | ⟨h0, -⟩⟩ := im_store_some hs
    · cases h0
    · exact lv_lstore hexec hb hd hL.has (im_s2_some h3).1 rfl (fun ls' hl => kk _ _ _ _ h2 ls' H locs (im_Lr.s2 h3 rfl hl) (im_s2_len h3) hW hS)
    · cases h0
  | astore_n n =>
    obtain ⟨v, r, L', rfl, h2, ⟨h0, -⟩ | ⟨h0, -⟩ | ⟨-, ⟨x, rfl⟩ | rfl, h3⟩⟩ := im_store_some hs
    · cases h0
    · cases h0
    · exact lv_astore_n hexec hb hd rfl hL.has (im_s1_some h3).1 rfl (fun ls' hl => kk _ _ _ _ h2 ls' H locs (im_Lr.s1 h3 rfl hl) (im_s1_len h3) hW hS)
    · exact lv_astore_nN hexec hb hd rfl hL.has (im_s1_some h3).1 rfl (fun ls' hl => kk _ _ _ _ h2 ls' H locs (im_Lr.s1 h3 rfl hl) (im_s1_len h3) hW hS)
  | astore n =>
    obtain ⟨v, r, L', rfl, h2, ⟨h0, -⟩ | ⟨h0, -⟩ | ⟨-, ⟨x, rfl⟩ | rfl, h3⟩⟩ := im_store_some hs
    · cases h0
    · cases h0
    · exact lv_astore hexec hb hd hL.has (im_s1_some h3).1 rfl (fun ls' hl => kk _ _ _ _ h2 ls' H locs (im_Lr.s1 h3 rfl hl) (im_s1_len h3) hW hS)
    · exact lv_astoreN hexec hb hd hL.has (im_s1_some h3).1 rfl (fun ls' hl => kk _ _ _ _ h2 ls' H locs (im_Lr.s1 h3 rfl hl) (im_s1_len h3) hW hS)
  | iinc n k =>
    simp only [im_step] at hs
    split at hs
    · rename_i z hz
      obtain ⟨L', h1, h2⟩ := Option.bind_eq_some_iff.mp hs
      obtain ⟨j, hj⟩ := List.getElem?_of_mem (im_pr_mem (B := B) (b := b) hz)
      exact lv_iinc hexec hb hd hL.has hj rfl (im_s1_some h1).1 rfl (fun ls' hl => kk _ _ _ _ (im_go_some h2) ls' H locs (im_Lr.s1 h1 rfl hl) (im_s1_len h1) hW hS)
    · cases hs
  | iadd | isub | imul | iand | ior | ixor | ishl | ishr | iushr | idiv | irem =>
    simp only [im_step] at hs
    split at hs
    · obtain ⟨z, h1, h2⟩ := Option.bind_eq_some_iff.mp hs
      exact im_bin_W hexec hb h1 hd (kk _ _ _ _ (im_go_some h2) ls H locs hL rfl hW hS)
    · cases hs
  | ladd | lsub | lmul | ldiv | lrem =>
    simp only [im_step] at hs
    split at hs
    · obtain ⟨z, h1, h2⟩ := Option.bind_eq_some_iff.mp hs
      exact im_lbin_W hexec hb h1 hd (kk _ _ _ _ (im_go_some h2) ls H locs hL rfl hW hS)
    · cases hs
  | ineg =>
    simp only [im_step] at hs
    split at hs
    · exact lv_ineg hexec hb hd (kk _ _ _ _ (im_go_some hs) ls H locs hL rfl hW hS)
    · cases hs
  | lneg =>
    simp only [im_step] at hs
    split at hs
    · exact lv_lneg hexec hb hd (kk _ _ _ _ (im_go_some hs) ls H locs hL rfl hW hS)
    · cases hs
  | lcmp =>
    simp only [im_step] at hs
    split at hs
    · exact W.lcmp hexec hb hd (kk _ _ _ _ (im_go_some hs) ls H locs hL rfl hW hS)
    · cases hs
  | i2l =>
    simp only [im_step] at hs
    split at hs
    · exact lv_i2l hexec hb hd rfl (kk _ _ _ _ (im_go_some hs) ls H locs hL rfl hW hS)
    · cases hs
  | l2i =>
    simp only [im_step] at hs
    split at hs
    · exact lv_l2i hexec hb hd rfl (kk _ _ _ _ (im_go_some hs) ls H locs hL rfl hW hS)
    · cases hs
  | i2b =>
    simp only [im_step] at hs
    split at hs
    · exact lv_i2b hexec hb hd rfl (kk _ _ _ _ (im_go_some hs) ls H locs hL rfl hW hS)
    · cases hs
  | dup =>
    simp only [im_step] at hs
    split at hs
    · split at hs
      · rename_i hcat
        exact lv_dup hexec hb hd (by rw [im_rv_cat]; exact hcat) (kk _ _ _ _ (im_go_some hs) ls H locs hL rfl hW hS)
      · cases hs
    · cases hs
  | pop =>
    simp only [im_step] at hs
    split at hs
    · split at hs
      · rename_i hcat
        exact lv_pop hexec hb hd (by rw [im_rv_cat]; exact hcat) (kk _ _ _ _ (im_go_some hs) ls H locs hL rfl hW hS)
      · cases hs
    · cases hs
  | dup2 =>
    simp only [im_step] at hs
    split at hs
    · split at hs
      · rename_i hcat
        exact lv_dup2_11 hexec hb hd (by rw [im_rv_cat]; exact hcat.1) (by rw [im_rv_cat]; exact hcat.2) (kk _ _ _ _ (im_go_some hs) ls H locs hL rfl hW hS)
      · cases hs
    · cases hs
  | goto off =>
    obtain ⟨h1, h2⟩ := im_jmp_some hs
    exact lv_goto hexec hb hd h1 (kk _ _ _ _ h2 ls H locs hL rfl hW hS)
  | ifCond cd off =>
    simp only [im_step] at hs
    split at hs
    · refine im_if_W hexec hb hd.1 (Int.toNat_of_nonneg hd.2).symm (fun hc => ?_) (fun hc => ?_)
      · rw [if_pos hc] at hs
        exact kk _ _ _ _ (im_jmp_some hs).2 ls H locs hL rfl hW hS
      · rw [if_neg hc] at hs
        exact kk _ _ _ _ (im_go_some hs) ls H locs hL rfl hW hS
    · cases hs
  | if_icmp cd off =>
    simp only [im_step] at hs
    split at hs
    · refine im_icmp_W hexec hb hd.1 (Int.toNat_of_nonneg hd.2).symm (fun hc => ?_) (fun hc => ?_)
      · rw [if_pos hc] at hs
        exact kk _ _ _ _ (im_jmp_some hs).2 ls H locs hL rfl hW hS
      · rw [if_neg hc] at hs
        exact kk _ _ _ _ (im_go_some hs) ls H locs hL rfl hW hS
    · cases hs
  | ifnull off =>
    simp only [im_step] at hs
    split at hs
    · obtain ⟨h1, h2⟩ := im_jmp_some hs
      exact lv_ifnullN hexec hb hd.1 h1 (kk _ _ _ _ h2 ls H locs hL rfl hW hS)
    · exact lv_ifnull hexec hb hd.1 (kk _ _ _ _ (im_go_some hs) ls H locs hL rfl hW hS)
    · cases hs
  | ifnonnull off =>
    simp only [im_step] at hs
    split at hs
    · obtain ⟨h1, h2⟩ := im_jmp_some hs
      exact lv_ifnonnull hexec hb hd.1 h1 (kk _ _ _ _ h2 ls H locs hL rfl hW hS)
    · exact lv_ifnonnullN hexec hb hd.1 (kk _ _ _ _ (im_go_some hs) ls H locs hL rfl hW hS)
    · cases hs
  | tableswitch dflt lo hi offs =>
    simp only [im_step] at hs
    split at hs
    · rename_i a r
      obtain ⟨off, h3, h4⟩ := Option.bind_eq_some_iff.mp hs
      obtain ⟨h1, h2⟩ := im_jmp_some h4
      unfold im_tsw at h3
      split at h3
      · rename_i hr
        cases h3
        exact lv_tableOut hexec hb hd hr h1 (kk _ _ _ _ h2 ls H locs hL rfl hW hS)
      · rename_i hr
        exact lv_tableIn hexec hb hd (fun z => hr (Or.inl z)) (fun z => hr (Or.inr z)) h3 h1 (kk _ _ _ _ h2 ls H locs hL rfl hW hS)
    · cases hs
  | lookupswitch dflt ps =>
    simp only [im_step] at hs
    split at hs
    · obtain ⟨h1, h2⟩ := im_jmp_some hs
      exact lv_lookup hexec hb hd ho rfl h1 (kk _ _ _ _ h2 ls H locs hL rfl hW hS)
    · cases hs
  | getfield idx =>
    obtain ⟨C, Tt, N, hc, hk, hlk⟩ := ho
    simp only [im_step, im_get] at hs
    split at hs
    · split at hs
      · rename_i hx
        split at hs
        · rename_i hci
          subst hci
          obtain ⟨v, h1, h2⟩ := Option.bind_eq_some_iff.mp hs
          exact im_rget hexec hb hown hK hcl hc hk hlk hW hx h1 hd (kk _ _ _ _ (im_go_some h2) ls H locs hL rfl hW hS)
        · cases hs
      · cases hs
    · cases hs
  | putfield idx =>
    obtain ⟨C, Tt, N, hc, hk, hlk⟩ := ho
    simp only [im_step, im_putf] at hs
    split at hs
    · split at hs
      · rename_i hx
        split at hs
        · rename_i hci
          subst hci
          split at hs
          · rename_i hl
            obtain ⟨ty, h1, h2⟩ := Option.bind_eq_some_iff.mp hs
            split at h2
            · rename_i hf
              have hq := im_go_some h2
              subst hq
              refine im_rput hexec hb hown hK hcl hc hk (by rw [hmn]; exact hlk) hW hS hx hl h1 hf hd (fun H1 locs1 hW1 hS1 => ?_)
              have hk2 := kk _ _ _ _ rfl ls H1 locs1 hL rfl hW1 hS1
              rw [List.length_set, im_sz_set hx (by simp [im_sc])] at hk2
              exact hk2
            · cases h2
          · cases hs
        · cases hs
      · cases hs
    · cases hs
  | iaload =>
    simp only [im_step, im_aldi] at hs
    split at hs
    · split at hs
      · rename_i hx
        split at hs
        · rename_i hkk
          subst hkk
          split at hs
          · cases hs
          · rename_i hin
            exact va_iald hexec hb hK.2 (im_P1 (hW.2 _ _ hx trivial)) 0 0 rfl (hki 0 .int rfl) (im_out_in hin) hd (kk _ _ _ _ (im_go_some hs) ls H locs hL rfl hW hS)
        · cases hs
      · cases hs
    · split at hs
      · obtain ⟨z, h1, h2⟩ := Option.bind_eq_some_iff.mp hs
        obtain ⟨hX, hbB⟩ := hsc z h1
        split at h2
        · cases h2
        · rename_i hin
          exact va_sld hexec hb hX (Nat.lt_of_lt_of_le hbB hB) (Nat.not_le.mpr hbB) hS (im_out_in hin) hd (kk _ _ _ _ (im_go_some h2) ls H locs hL rfl hW hS)
      · cases hs
    · cases hs
  | baload =>
    simp only [im_step, im_aldi] at hs
    split at hs
    · split at hs
      · rename_i hx
        split at hs
        · rename_i hkk
          subst hkk
          split at hs
          · cases hs
          · rename_i hin
            exact va_bald hexec hb hK.2 (im_P1 (hW.2 _ _ hx trivial)) 0 1 rfl (hki 1 .byte rfl) (im_out_in hin) hd (kk _ _ _ _ (im_go_some hs) ls H locs hL rfl hW hS)
        · cases hs
      · cases hs
    · split at hs
      · rename_i h0
        cases h0
      · cases hs
    · cases hs
  | laload =>
    simp only [im_step, im_aldl] at hs
    split at hs
    · split at hs
      · rename_i hx
        split at hs
        · rename_i hkk
          subst hkk
          split at hs
          · cases hs
          · rename_i hin
            exact va_lald hexec hb hK.2 (im_P1 (hW.2 _ _ hx trivial)) 0 2 rfl (hki 2 .long rfl) (im_out_in hin) hd (kk _ _ _ _ (im_go_some hs) ls H locs hL rfl hW hS)
        · cases hs
      · cases hs
    · cases hs
  | aaload =>
    simp only [im_step, im_aldr] at hs
    split at hs
    · split at hs
      · rename_i hx
        split at hs
        · rename_i hkk
          subst hkk
          split at hs
          · cases hs
          · rename_i hin
            obtain ⟨C, Tt, N, hc⟩ := ho
            have ht : tys[3 + a1]? = some (im_tc tys (3 + a1), .object C) := hki (3 + a1) (.object C) (by rw [Nat.add_comm]; show (cl[a1]?).map _ = _; rw [hc]; rfl)
            refine va_aldq hexec hb hK.2 (im_P1 (hW.2 _ _ hx trivial)) 0 (3 + a1) rfl ht (im_out_in hin) hd ?_
            rw [im_rf B b]
            exact kk _ _ _ _ (im_go_some hs) ls H locs hL rfl hW hS
        · cases hs
      · cases hs
    · cases hs
  | iastore =>
    simp only [im_step, im_asti] at hs
    split at hs
    · split at hs
      · rename_i hx
        split at hs
        · rename_i hkk
          subst hkk
          split at hs
          · cases hs
          · rename_i hin
            have hq := im_go_some hs
            subst hq
            refine im_riast hexec hb hK hki hW hS hx (im_out_in hin) hd (fun H1 locs1 hW1 hS1 => ?_)
            have hk2 := kk _ _ _ _ rfl ls H1 locs1 hL rfl hW1 hS1
            rw [List.length_set, im_sz_set hx (by simp [im_sc])] at hk2
            exact hk2
        · cases hs
      · cases hs
    · cases hs
  | bastore =>
    simp only [im_step, im_asti] at hs
    split at hs
    · split at hs
      · rename_i hx
        split at hs
        · rename_i hkk
          subst hkk
          split at hs
          · cases hs
          · rename_i hin
            have hq := im_go_some hs
            subst hq
            refine im_rbast hexec hb hK hki hW hS hx (im_out_in hin) hd (fun H1 locs1 hW1 hS1 => ?_)
            have hk2 := kk _ _ _ _ rfl ls H1 locs1 hL rfl hW1 hS1
            rw [List.length_set, im_sz_set hx (by simp [im_sc])] at hk2
            exact hk2
        · cases hs
      · cases hs
    · cases hs
  | lastore =>
    simp only [im_step, im_astl] at hs
    split at hs
    · split at hs
      · rename_i hx
        split at hs
        · rename_i hkk
          subst hkk
          split at hs
          · cases hs
          · rename_i hin
            have hq := im_go_some hs
            subst hq
            refine im_rlast hexec hb hK hki hW hS hx (im_out_in hin) hd (fun H1 locs1 hW1 hS1 => ?_)
            have hk2 := kk _ _ _ _ rfl ls H1 locs1 hL rfl hW1 hS1
            rw [List.length_set, im_sz_set hx (by simp [im_sc])] at hk2
            exact hk2
        · cases hs
      · cases hs
    · cases hs
  | aastore =>
    simp only [im_step, im_astr] at hs
    split at hs
    · split at hs
      · rename_i hx hv
        split at hs
        · rename_i hkk
          obtain ⟨rfl, rfl⟩ := hkk
          split at hs
          · cases hs
          · rename_i hin
            obtain ⟨C, Tt, N, hc⟩ := ho
            have hq := im_go_some hs
            subst hq
            refine im_raast hexec hb hK hki hc hW hS hx hv (im_out_in hin) hd (fun H1 locs1 hW1 hS1 => ?_)
            have hk2 := kk _ _ _ _ rfl ls H1 locs1 hL rfl hW1 hS1
            rw [List.length_set, im_sz_set hx (by simp [im_sc])] at hk2
            exact hk2
        · cases hs
      · cases hs
    · cases hs
  | arraylength =>
    simp only [im_step, im_alen] at hs
    obtain ⟨ty, hty⟩ := ho
    split at hs
    · split at hs
      · rename_i hx
        split at hs
        · rename_i hkk
          subst hkk
          exact va_alen hexec hb hK.2 (im_P1 (hW.2 _ _ hx trivial)) 0 _ rfl (hki _ ty hty) rfl hd (kk _ _ _ _ (im_go_some hs) ls H locs hL rfl hW hS)
        · cases hs
      · cases hs
    · obtain ⟨z, h1, h2⟩ := Option.bind_eq_some_iff.mp hs
      obtain ⟨hX, hbB⟩ := hsc z h1
      exact va_slen hexec hb hX (Nat.lt_of_lt_of_le hbB hB) (Nat.not_le.mpr hbB) hS hd (kk _ _ _ _ (im_go_some h2) ls H locs hL rfl hW hS)
    · cases hs
  | new idx =>
    obtain ⟨C, Tt, N, hc, hl1, hl2, hl3⟩ := ho
    have hq := im_go_some hs
    subst hq
    have hlen := (hcl _ _ _ _ hc).2.1
    have hsz : im_sz (h ++ [.inr (a1, (T.1 a1).map defaultValue)]) = im_sz h + N := by rw [im_sz_push]; simp [im_sc, hlen]
    have hln : (h ++ [(.inr (a1, (T.1 a1).map defaultValue) : im_C)]).length = h.length + 1 := by simp
    refine im_rnew hexec hb hown hK hcl hc hl1 hl2 hl3 hW hB hS ?_ ?_ hd (fun H1 hW1 hS1 => ?_)
    · have := hcap
      simp only [im_hp, hln] at this
      omega
    · have := hcap2
      simp only [im_hp, hsz] at this
      omega
    · have hk2 := kk _ _ _ _ rfl ls H1 locs hL rfl hW1 hS1
      rw [hln, hsz] at hk2
      rw [show h.length - n0 + 1 = h.length + 1 - n0 by omega, show im_sz h - s0 + N = im_sz h + N - s0 by omega]
      exact hk2
  | newarray t =>
    obtain ⟨hk3, hk, hl⟩ := ho
    simp only [im_step] at hs
    have hk3 : a1 < 3 := hk3
    have hk : im_kty cl a1 = some (newarray.typeOf t) := hk
    have hty : im_nty a1 = newarray.typeOf t := by
      rcases (show a1 = 0 ∨ a1 = 1 ∨ a1 = 2 by omega) with rfl | rfl | rfl <;> exact Option.some.inj hk
    rw [hty] at hs
    unfold im_newa at hs
    split at hs
    · split at hs
      · cases hs
      · rename_i hn
        split at hs
        · cases hs
        · rename_i hby
          obtain ⟨x, h1, h2⟩ := Option.bind_eq_some_iff.mp hs
          have hq := im_go_some h2
          subst hq
          have hx1 := (im_zero_cell h1 B 0).2
          have hln : (h ++ [(.inl (a1, x) : im_C)]).length = h.length + 1 := by simp
          have hsz : im_sz (h ++ [(.inl (a1, x) : im_C)]) = im_sz h + x.1 := by rw [im_sz_push]; rfl
          rw [hx1] at hsz
          refine im_rnewa hexec hb hK hki hk hk3 hl hW hS h1 hn hby ?_ ?_ hd (fun H1 hW1 hS1 => ?_)
          · have := hcap
            simp only [im_hp, hln] at this
            omega
          · have := hcap2
            simp only [im_hp, hsz] at this
            omega
          · have hk2 := kk _ _ _ _ rfl ls H1 locs hL rfl hW1 hS1
            rw [hln, hsz] at hk2
            rw [show h.length - n0 + 1 = h.length + 1 - n0 by omega, show im_sz h - s0 + _ = im_sz h + _ - s0 from (Nat.sub_add_comm hs0).symm]
            exact hk2
    · cases hs
  | anewarray idx =>
    obtain ⟨C, Tt, N, hc, hl1, hl2⟩ := ho
    simp only [im_step] at hs
    unfold im_newr at hs
    split at hs
    · split at hs
      · cases hs
      · rename_i hn
        split at hs
        · cases hs
        · rename_i n r hby
          have hq := im_go_some hs
          subst hq
          have hln : (h ++ [(.inl (3 + a1, n.toNatClampNeg, .inr (.inr (.inr (.inr (fun _ => none))))) : im_C)]).length = h.length + 1 := by simp
          have hsz : im_sz (h ++ [(.inl (3 + a1, n.toNatClampNeg, .inr (.inr (.inr (.inr (fun _ => none))))) : im_C)]) = im_sz h + n.toNatClampNeg := by rw [im_sz_push]; rfl
          refine im_rnewr hexec hb hown hK hki hc hl1 hl2 hW hS hn hby ?_ ?_ hd (fun H1 hW1 hS1 => ?_)
          · have := hcap
            simp only [im_hp, hln] at this
            omega
          · have := hcap2
            simp only [im_hp, hsz] at this
            omega
          · have hk2 := kk _ _ _ _ rfl ls H1 locs hL rfl hW1 hS1
            rw [hln, hsz] at hk2
            rw [show h.length - n0 + 1 = h.length + 1 - n0 by omega, show im_sz h - s0 + _ = im_sz h + _ - s0 from (Nat.sub_add_comm hs0).symm]
            exact hk2
    · cases hs
  | invokevirtual idx =>
    simp only [im_step] at hs
    split at hs
    · rename_i hr
      obtain ⟨o, h1, h2⟩ := im_rcv_some hr
      obtain ⟨fs, h3⟩ := h2 _ rfl
      refine hinv rfl hs (fun hn h0 => ?_)
      obtain ⟨us, hus⟩ := im_take_rcv hn h0 h1
      exact ⟨o, fs, us, hus, h3⟩
    · cases hs
  | invokespecial idx =>
    simp only [im_step] at hs
    split at hs
    · rename_i hr
      obtain ⟨o, h1, h2⟩ := im_rcv_some hr
      refine hinv rfl hs (fun hn h0 => ?_)
      obtain ⟨us, hus⟩ := im_take_rcv hn h0 h1
      exact ⟨o, us, hus⟩
    · cases hs
  | invokestatic idx => exact hinv rfl hs (fun _ => trivial)
  | ireturn =>
    simp only [im_step, im_ret] at hs
    split at hs
    · split at hs
      · split at hs
        · rename_i hf
          cases hs
          exact kr _ rfl (Or.inl ⟨_, _, rfl, rfl, hf, hd⟩)
        · cases hs
      · cases hs
    · cases hs
  | areturn =>
    simp only [im_step] at hs
    split at hs
    · split at hs
      · rename_i hf
        cases hs
        exact kr _ rfl (Or.inr (Or.inl ⟨_, rfl, hf.1, hf.2, hd⟩))
      · cases hs
    · cases hs
  | return_ =>
    simp only [im_step] at hs
    split at hs
    · split at hs
      · rename_i hf
        cases hs
        exact kr _ rfl (Or.inr (Or.inr ⟨rfl, Option.isNone_iff_eq_none.mp hf, hd⟩))
      · cases hs
    · cases hs
  | _ => cases hs
end IMU
end
section
/-! a run, a method, a call -/
def im_gw (w : Jvm.Cond) : Bool := w.onTables && (goodWord w || (match w with
  | .fieldLinkNest .. => true
  | .methodLinkNest .. => true
  | .arrayOver (.object _) => true
  | _ => false))
section IMV
variable {p : Program} {l : Launch} {e : Env} {R : Room} {s : State} {m : MethodId} {args : Array Value} {below : List Frame} {meth : Method} {c : Code} {Q : State → Prop} {H : Heap} {locs : List Loc} {cells slots : Nat}
variable {D : va_G} {cl : List vw_C} {tys : List (ClassId × FieldType)} {B b : Nat} {cc : ByteArray} {own mn : String} {TB : List Jvm.Cond} {T : im_T} {pc : Nat} {ls : Array Slot}
theorem im_K.warm {U : State} (hg : ∀ w ∈ TB, im_gw w = true) (hW : s.WarmedH U.vm) (hK : im_K TB D cl tys s) : im_K TB D cl tys U := by
  refine ⟨fun w hw a => ?_, hK.2.moved hW.alike⟩
  have h1 := hg w hw
  unfold im_gw at h1
  rw [Bool.and_eq_true, Bool.or_eq_true] at h1
  obtain ⟨-, h | h⟩ := h1
  · exact word_at hW (good_of_word h) (hK.1 w hw #[])
  · split at h
    · exact va_Nw.use rfl (va_Nw.warmF hW (hK.1 _ hw #[]))
    · exact va_Nw.use rfl (va_Nw.warmM hW (hK.1 _ hw #[]))
    · exact va_AO.use (va_AO.moved hW.alike (hK.1 _ hw #[]))
    · cases h
theorem im_K.same {u U : State} (hg : ∀ w ∈ TB, im_gw w = true) (hvm : u.vm = U.vm) (hK : im_K TB D cl tys u) : im_K TB D cl tys U := by
  refine ⟨fun w hw a => ?_, hK.2.moved (by rw [hvm]; exact Vm.Alike.refl _)⟩
  have h1 := hg w hw
  unfold im_gw at h1
  rw [Bool.and_eq_true] at h1
  exact va_tabs h1.1 hvm (hK.1 w hw #[])
theorem im_sRun {call : im_F} {ret : Option FieldType} {cd : List (Nat × im_X)} (hup : im_Cup call) (hx0 : im_Cx p s m meth c TB D cl tys B b T cc own mn)
    (hcd : ∀ pc x, im_f cd pc = some x → im_dk cc pc x ∧ im_ok TB cl own mn x) (hsite : ∀ pc x, im_f cd pc = some x → im_isinv x.1 = true → im_Site p l e R s m args below meth c Q D cl tys B b call x pc)
    {n0 s0 : Nat} {r : Option Value} {h' : im_H} (hcap : h'.length - n0 ≤ R.cells) (hcap2 : im_sz h' - s0 ≤ R.slots)
    (hfin : ∀ (pc : Nat) (ls : Array Slot) (H : Heap) (locs : List Loc), im_W D cl tys B b h' H → va_S (fun q => B ≤ q) s.heap H locs → im_End cc ret pc r → W p l e R s m args below meth c H locs (h'.length - n0) (im_sz h' - s0) Q (F0 m pc ls (r.toList.map (im_rv B b)))) :
    ∀ (n pc : Nat) (L : im_L) (st : List Value) (h : im_H), im_run T call ret cd n pc L st h = some (r, h') → ∀ (ls : Array Slot) (H : Heap) (locs : List Loc), im_Lr B b ls L → L.length = c.maxLocals → im_W D cl tys B b h H → va_S (fun q => B ≤ q) s.heap H locs → n0 ≤ h.length → s0 ≤ im_sz h →
      W p l e R s m args below meth c H locs (h.length - n0) (im_sz h - s0) Q (F0 m pc ls (st.map (im_rv B b))) := by
  intro n
  induction n with
  | zero => intro pc L st h hs; cases hs
  | succ n ih =>
    intro pc L st h hs ls H locs hL hml hW hS hn0 hs0
    rw [im_run] at hs
    obtain ⟨x, hx, h2⟩ := Option.bind_eq_some_iff.mp hs
    obtain ⟨q, h3, h4⟩ := Option.bind_eq_some_iff.mp h2
    have hu := im_step_up hup h3
    have hv : im_Up (im_hp q) h' := by
      split at h4
      · exact im_run_up hup _ _ _ _ _ _ _ h4
      · cases h4; exact im_Up.rf _
    refine im_sStep hup hx0 (hcd pc x hx).1 (hcd pc x hx).2 (hsite pc x hx) h3 hL hml hW hS hn0 hs0 (by have := hv.1; omega) (by have := hv.2; omega) ?_ ?_
    · intro pc' L' st' h'' hq ls' H' locs' hL' hlen hW' hS'
      subst hq
      exact ih pc' L' st' h'' h4 ls' H' locs' hL' (hlen.trans hml) hW' hS' (Nat.le_trans hn0 hu.1) (Nat.le_trans hs0 hu.2)
    · intro r' hq hE
      subst hq
      cases h4
      exact hfin pc ls H locs hW hS hE
def im_rm (d mc ms : Nat) : Room := { frames := d + 1, cells := mc, slots := ms, locals := 48 * d + 48 }
def im_Qc (D : va_G) (cl : List vw_C) (tys : List (ClassId × FieldType)) (B b : Nat) (r : Option Value) (h' : im_H) : Array Value → State → Outcome → State → Prop := fun _ st o t => o = .returned (r.map (im_rv B b)) ∧ im_W D cl tys B b h' t.heap ∧ va_F (fun q => B ≤ q) st t
/-- a call of the method keeps to what the small machine says -/
def im_Mt (l : Launch) (TB : List Jvm.Cond) (D : va_G) (cl : List vw_C) (tys : List (ClassId × FieldType)) (B b : Nat) (y : MethodName × ByteArray) (q : im_M) (d : Nat) (vs : List Value) (h : im_H) (r : Option Value) (h' : im_H) : Prop :=
  Met l y.1 [Jvm.Cond.code y.1 y.2 q.2.1 q.2.2] (im_rm d (h'.length - h.length) (im_sz h' - im_sz h)) (va_Pc (vs.map (im_rv B b)) (fun U => im_K TB D cl tys U ∧ im_W D cl tys B b h U.heap)) (im_Qc D cl tys B b r h') (h'.length - h.length) (im_sz h' - im_sz h) (fun q => B ≤ q)
theorem im_ent_len {vs : List Value} {n : Nat} (hn : (im_sl vs).length ≤ n) : (im_ent vs n).length = n := by
  unfold im_ent
  rw [List.length_append, List.length_replicate]
  omega
theorem im_sl_map (B b : Nat) (vs : List Value) : lg_sl (vs.map (im_rv B b)) = (im_sl vs).map (fun o => match o with | some v => Slot.val (im_rv B b v) | none => Slot.second) := by
  induction vs with
  | nil => rfl
  | cons v t ih =>
    unfold lg_sl im_sl at ih ⊢
    rw [List.map_cons, List.flatMap_cons, List.flatMap_cons, List.map_append, ih, im_rv_cat]
    by_cases hc : v.category = 2
    · rw [if_pos hc, if_pos hc]; rfl
    · rw [if_neg hc, if_neg hc]; rfl
theorem im_entry {vs : List Value} {n : Nat} (hn : (im_sl vs).length ≤ n) : im_Lr B b (lg_sl (vs.map (im_rv B b)) ++ List.replicate (n - (lg_sl (vs.map (im_rv B b))).length) Slot.unset).toArray (im_ent vs n) := by
  have hlen : (lg_sl (vs.map (im_rv B b))).length = (im_sl vs).length := by rw [im_sl_map, List.length_map]
  have hl := lv_entry (vs.map (im_rv B b)) (n := n) (by rw [hlen]; exact hn)
  refine ⟨⟨by rw [im_ent_len hn]; exact hl.1, hl.2.1, fun q hq => by cases hq⟩, fun i v hi => ?_⟩
  rw [List.getElem?_toArray]
  unfold im_ent at hi
  by_cases hi2 : i < (im_sl vs).length
  · rw [List.getElem?_append_left hi2] at hi
    rw [List.getElem?_append_left (by rw [hlen]; exact hi2), im_sl_map, List.getElem?_map, hi]
    rfl
  · rw [List.getElem?_append_right (by omega), List.getElem?_replicate] at hi
    split at hi
    · cases hi
    · cases hi
theorem im_sMet {call : im_F} {y : MethodName × ByteArray} {q : im_M} (hup : im_Cup call) (hpl : plainName y.1.cls = true) (hg : ∀ w ∈ TB, im_gw w = true) (hcl : im_cls TB T.1 cl) (hki : im_kinds cl tys) (hT : T.2 = none)
    (hcd : ∀ pc x, im_f q.1 pc = some x → im_dk y.2 pc x ∧ im_ok TB cl y.1.cls y.1.name x) {d n : Nat}
    (hsite : ∀ (p : Program) (e : Env) (R : Room) (s : State) (m : MethodId) (args : Array Value) (below : List Frame) (meth : Method) (c : Code) (Q : State → Prop), im_Cx p s m meth c TB D cl tys B b T y.2 y.1.cls y.1.name → R.frames = d + 1 → R.locals = 48 * d + 48 → ∀ pc x, im_f q.1 pc = some x → im_isinv x.1 = true → im_Site p l e R s m args below meth c Q D cl tys B b call x pc)
    {vs : List Value} {h : im_H} {r : Option Value} {h' : im_H} (hsl : (im_sl vs).length ≤ q.2.1) (hs : im_run T call q.2.2 q.1 n 0 (im_ent vs q.2.1) [] h = some (r, h')) : im_Mt l TB D cl tys B b y q d vs h r h' := by
  refine Met.ofW (cc := y.2) (maxL := q.2.1) (ret := q.2.2) hpl rfl ?_
  intro p e s m args below meth c s₁ Bd hml hv
  obtain ⟨rfl, hK, hW⟩ := hv
  have hexec := Bd.exec
  have hb := Bd.bytes
  have hr := Bd.returns
  have hown : s.vm.findClass y.1.cls = some m.cls := findClass_of_methodNamed Bd.named
  have hlocks := Bd.notSynchronized
  have hin : meth.name = y.1.name := (name_of_methodNamed Bd.named Bd.method).1
  have hB : B ≤ s.heap.size := by rw [hW.1]; exact Nat.le_add_right _ _
  have hCx : im_Cx p s m meth c TB D cl tys B b T y.2 y.1.cls y.1.name := ⟨hexec, hb, hown, hin, hK, hcl, hki, hB, fun z hz => by rw [hT] at hz; cases hz⟩
  rw [lg_entry_eq]
  have hcc : ∀ (L : im_L), L.length = q.2.1 → L.length = c.maxLocals := fun L hL => hL.trans hml.symm
  have key := im_sRun (e := e) (R := (headSpec [Jvm.Cond.code y.1 y.2 q.2.1 q.2.2] (im_rm d (h'.length - h.length) (im_sz h' - im_sz h))).room) (args := (vs.map (im_rv B b)).toArray) (below := below) (Q := MQ below (im_Qc D cl tys B b r h') (vs.map (im_rv B b)).toArray s (h'.length - h.length) (im_sz h' - im_sz h) (fun q => B ≤ q)) (l := l)
    hup hCx hcd (hsite p e _ s m _ below meth c _ hCx rfl rfl) (n0 := h.length) (s0 := im_sz h) (r := r) (h' := h') (ret := q.2.2) (Nat.le_refl _) (Nat.le_refl _) ?_ n 0 (im_ent vs q.2.1) [] h hs _ s.heap [] (im_entry hsl) (hcc _ (im_ent_len hsl)) hW va_S.rf (Nat.le_refl _) (Nat.le_refl _)
  · rw [Nat.sub_self, Nat.sub_self] at key
    exact key
  · intro pc ls H locs hW' hS hE
    have hq : ∀ t : State, t.heap = H → s.WarmedH t.vm → im_Qc D cl tys B b r h' (vs.map (im_rv B b)).toArray s (.returned (r.map (im_rv B b))) t := fun t ht _ => ⟨rfl, by rw [ht]; exact hW', hS.F ht⟩
    rcases hE with ⟨v, ty, rfl, hret, hf, hdg⟩ | ⟨v, rfl, hf, hrt, hdg⟩ | ⟨rfl, hret, hdg⟩
    · exact W.zret hexec hb (hr.trans hret) (im_fit_n (B := B) (b := b) hf).1 hq (fun z hz => hS.2.2 z hz) hdg hlocks
    · have hrt2 : ∃ rt, q.2.2 = some rt ∧ ((∃ n, rt = .object n) ∨ ∃ t, rt = .array t) := by
        unfold im_isrt at hrt
        split at hrt
        · rename_i hz; exact ⟨_, hz, Or.inl ⟨_, rfl⟩⟩
        · rename_i hz; exact ⟨_, hz, Or.inr ⟨_, rfl⟩⟩
        · cases hrt
      obtain ⟨rt, hrt3, hrt4⟩ := hrt2
      have hv : im_rv B b v = .null ∨ ∃ a, im_rv B b v = .ref a := by
        unfold im_isref at hf
        split at hf
        · exact Or.inr ⟨_, rfl⟩
        · exact Or.inl rfl
        · cases hf
      exact W.aret hexec hb (hr.trans hrt3) hrt4 hv hq (fun z hz => hS.2.2 z hz) hdg hlocks
    · exact W.vret hexec hb (hr.trans hret) hq (fun z hz => hS.2.2 z hz) hdg hlocks
theorem im_call {mc ms : Nat} {r : Option Value} {h' : im_H} {a : Array Value} {st0 rest : List Value} (hr : va_Run p l e R s m args below meth c H locs cells slots mc ms (F0 m pc ls st0) rest (im_Qc D cl tys B b r h' a) (fun q => B ≤ q)) (hS : va_S (fun q => B ≤ q) s.heap H locs)
    (kk : ∀ (H1 : Heap) (locs1 : List Loc), im_W D cl tys B b h' H1 → va_S (fun q => B ≤ q) s.heap H1 locs1 → W p l e R s m args below meth c H1 locs1 (cells + mc) (slots + ms) Q (F0 m (pc + 3) ls (r.toList.map (im_rv B b) ++ rest))) : W p l e R s m args below meth c H locs cells slots Q (F0 m pc ls st0) := by
  intro T0 hT X
  obtain ⟨v, st₀, t, T', L, h0, X', hL, e1, e2, ⟨hv, hw, hz, hk⟩, st⟩ := hr T0 hT X
  cases hv
  rw [h0] at hz hk
  have hrl : (r.map (im_rv B b)).toList = r.toList.map (im_rv B b) := by cases r <;> rfl
  rw [hrl] at st
  obtain ⟨t2, a1, b1⟩ := kk T'.heap (locs ++ L) (by rw [e1]; exact hw)
    ⟨Nat.le_trans hS.1 (by rw [e1]; exact hz), fun q h1 h2 => by rw [e1, hk q (Nat.lt_of_lt_of_le h1 hS.1) h2]; exact hS.2.1 q h1 h2, fun q hq => by
      rcases List.mem_append.mp hq with h | h
      · exact hS.2.2 q h
      · exact hL q h⟩ T' rfl X'
  exact ⟨t2, st t2 a1, b1⟩
/-- what the tables say of a call's method -/
def im_cw (TB : List Jvm.Cond) (y : MethodName × ByteArray) (q : im_M) (np : Nat) : Prop := Jvm.Cond.code y.1 y.2 q.2.1 q.2.2 ∈ TB ∧ Jvm.Cond.initialized y.1.cls ∈ TB ∧ (y.1.cls ≠ "java/lang/invoke/MethodHandle" ∧ y.1.cls ≠ "java/lang/invoke/VarHandle") ∧ (parseMethodDescriptor y.1.desc).map (fun d => d.parameters.length) = some np ∧ q.2.1 ≤ 29
def im_lkM (TB : List Jvm.Cond) (own : String) (idx : Nat) (y : MethodName) : Prop := Jvm.Cond.methodLink own idx y ∈ TB ∨ ∃ host : String, Jvm.Cond.methodLinkNest own idx y host ∈ TB
def im_inok (TB : List Jvm.Cond) (cl : List vw_C) (own : String) (x : im_X) (y : MethodName × ByteArray) (q : im_M) : Prop := match x.1 with
  | .invokevirtual idx => ∃ np, im_cw TB y q np ∧ x.2.2 = np + 1 ∧ im_lkM TB own idx y.1 ∧ Jvm.Cond.instanceMethod y.1 ∈ TB ∧ Jvm.Cond.selects y.1.cls y.1 y.1 ∈ TB ∧ ∃ r : vw_C, cl[x.2.1 / 64]? = some r ∧ r.1 = y.1.cls
  | .invokespecial idx => ∃ np, im_cw TB y q np ∧ x.2.2 = np + 1 ∧ im_lkM TB own idx y.1 ∧ Jvm.Cond.instanceMethod y.1 ∈ TB ∧ y.1.name = "<init>" ∧ q.2.2 = none
  | .invokestatic idx => ∃ np, im_cw TB y q np ∧ x.2.2 = np ∧ im_lkM TB own idx y.1 ∧ Jvm.Cond.static y.1 ∈ TB
  | _ => False
theorem im_blind {TB : List Jvm.Cond} (hg : ∀ w ∈ TB, im_gw w = true) (av : List Value) (h : im_H) : FrameBlind (va_Pc av (fun U => im_K TB D cl tys U ∧ im_W D cl tys B b h U.heap)) := by
  intro a U g mk hq
  obtain ⟨h1, h2, h3⟩ := hq
  exact ⟨h1, im_K.same (u := U) (U := U.calling g mk a) hg rfl h2, h3⟩
theorem im_site {call : im_F} (hg : ∀ w ∈ TB, im_gw w = true) (hx0 : im_Cx p s m meth c TB D cl tys B b T cc own mn) {x : im_X} {y : MethodName × ByteArray} {q : im_M} {d : Nat} (hR1 : d + 1 + 1 ≤ R.frames) (hR2 : 48 * (d + 1) + 48 ≤ R.locals) (hd : im_dk cc pc x) (hi : im_inok TB cl own x y q)
    (hM : ∀ vs h r h', call x.2.1 vs h = some (r, h') → im_Mt l TB D cl tys B b y q d vs h r h') : im_Site p l e R s m args below meth c Q D cl tys B b call x pc := by
  obtain ⟨hexec, hb, hown, hmn, hK, -, -, -, -⟩ := hx0
  have hts : ∀ w ∈ TB, w.before args s = true := fun w hw => hK.1 w hw args
  have hcb : ∀ {np mc ms : Nat}, im_cw TB y q np → ((im_rm d mc ms).cells = mc ∧ (im_rm d mc ms).slots = ms ∧ (im_rm d mc ms).frames + 1 ≤ R.frames ∧ 8 + (q.2.1 + 11) + (im_rm d mc ms).locals ≤ R.locals ∧ (∀ w ∈ [Jvm.Cond.code y.1 y.2 q.2.1 q.2.2], ∀ (a' : Array Value) (U : State), s.WarmedH U.vm → w.before a' U = true) ∧ Jvm.Cond.code y.1 y.2 q.2.1 q.2.2 ∈ [Jvm.Cond.code y.1 y.2 q.2.1 q.2.2]) := by
    intro np mc ms hc
    refine ⟨rfl, rfl, hR1, ?_, ?_, List.mem_cons_self⟩
    · have := hc.2.2.2.2
      show 8 + (q.2.1 + 11) + (48 * d + 48) ≤ R.locals
      omega
    · intro w hw a' U hWm
      rw [List.mem_singleton.mp hw]
      exact (hK.warm hg hWm).1 _ hc.1 a'
  have hsg : ∀ {np : Nat}, im_cw TB y q np → ∀ sig, parseMethodDescriptor y.1.desc = some sig → np = sig.parameters.length := by
    intro np hc sig hs
    have h2 := hc.2.2.2.1
    rw [hs] at h2
    exact (Option.some.inj h2).symm
  intro vs rest h r h' H locs cells slots ls hcall hlen hrc hrest hW hS hls hc1 hc2 kk
  have hPs : ∀ (U : State), U.heap = H → s.WarmedH U.vm → va_Pc (vs.map (im_rv B b)) (fun U => im_K TB D cl tys U ∧ im_W D cl tys B b h U.heap) (vs.map (im_rv B b)).toArray U := fun U hU hWm => ⟨rfl, hK.warm hg hWm, by rw [hU]; exact hW⟩
  have hcb' := fun {np : Nat} (hc : im_cw TB y q np) => hcb (mc := h'.length - h.length) (ms := im_sz h' - im_sz h) hc
  obtain ⟨i, a1, a2⟩ := x
  cases i with
  | invokevirtual idx =>
    obtain ⟨np, hcw, hn, hlk, hinst, hsel, rr, hcr, hcr2⟩ := hi
    have hn : a2 = np + 1 := hn
    obtain ⟨o, fs, us, rfl, ho⟩ := hrc (by show 0 < a2; omega)
    have hus : us.length = np := by
      have : (Value.ref o :: us).length = a2 := hlen
      rw [List.length_cons] at this
      omega
    have hrcv : ∃ cellB : Cell, H[B + o]? = some cellB ∧ cellB.vm.isStatics = false ∧ s.vm.findClass y.1.cls = some cellB.cls := by
      obtain ⟨cell, g1, g2, g3⟩ := va_recv hK.2 (im_P1 (hW.2 o _ ho (im_lvo hcr))) hcr (q0 := 0) rfl
      exact ⟨cell, g1, g2, by rw [← hcr2]; exact g3⟩
    have hst : ((Value.ref o :: us).map (im_rv B b)).reverse ++ rest = (us.map (im_rv B b)).reverse ++ .ref (B + o) :: rest := by
      rw [List.map_cons, List.reverse_cons, List.append_assoc]; rfl
    rw [hst]
    rcases hlk with hl | ⟨host, hl⟩
    · exact im_call (va_runV (As := us.map (im_rv B b)) (b := B + o) ⟨hexec, hb, rfl, hown, hts⟩ (hM _ _ _ _ hcall) ⟨⟨(hcb' hcw).1, (hcb' hcw).2.1, (hcb' hcw).2.2.1, (hcb' hcw).2.2.2.1, (hcb' hcw).2.2.2.2.1, (hcb' hcw).2.2.2.2.2, hts _ hcw.1, hts _ hcw.2.1, hcw.2.2.1, hsg hcw, hts _ hl⟩, hts _ hinst, hts _ hsel⟩ ⟨im_blind hg _ _, hrcv, hPs⟩ rfl (by rw [List.length_map]; exact hus) hls rfl (by show 2 * 0 + _ ≤ 8; omega) hd ⟨hc1, hc2⟩) hS kk
    · exact im_call (va_runVN (As := us.map (im_rv B b)) (b := B + o) (host := host) (C := y.1.cls) ⟨hexec, hb, rfl, hown, hts⟩ (hM _ _ _ _ hcall) ⟨⟨hcb' hcw, hts _ hcw.1, hts _ hcw.2.1, hcw.2.2.1, hsg hcw, hts _ hl⟩, hts _ hinst, hts _ hsel⟩ ⟨im_blind hg _ _, hrcv, hPs⟩ rfl (by rw [List.length_map]; exact hus) hls rfl (by show 2 * 0 + _ ≤ 8; omega) hd ⟨hc1, hc2⟩) hS kk
  | invokespecial idx =>
    obtain ⟨np, hcw, hn, hlk, hinst, hname, hret⟩ := hi
    have hn : a2 = np + 1 := hn
    obtain ⟨o, us, rfl⟩ := hrc (by show 0 < a2; omega)
    have hus : us.length = np := by
      have : (Value.ref o :: us).length = a2 := hlen
      rw [List.length_cons] at this
      omega
    have hst : ((Value.ref o :: us).map (im_rv B b)).reverse ++ rest = (us.map (im_rv B b)).reverse ++ .ref (B + o) :: rest := by
      rw [List.map_cons, List.reverse_cons, List.append_assoc]; rfl
    rw [hst]
    have hM1 := hM _ _ _ _ hcall
    unfold im_Mt at hM1
    have hcw1 := hcb (mc := h'.length - h.length) (ms := im_sz h' - im_sz h) hcw
    have hcw2 := hts _ hcw.1
    rw [hret] at hM1 hcw1 hcw2
    rcases hlk with hl | ⟨host, hl⟩
    · exact im_call (va_runI (As := us.map (im_rv B b)) (b := B + o) ⟨hexec, hb, rfl, hown, hts⟩ hM1 ⟨⟨hcw1.1, hcw1.2.1, hcw1.2.2.1, hcw1.2.2.2.1, hcw1.2.2.2.2.1, hcw1.2.2.2.2.2, hcw2, hts _ hcw.2.1, hcw.2.2.1, hsg hcw, hts _ hl⟩, hname, hts _ hinst⟩ ⟨im_blind hg _ _, hPs⟩ rfl (by rw [List.length_map]; exact hus) hls rfl (by show 2 * 0 + _ ≤ 8; omega) hd ⟨hc1, hc2⟩) hS kk
    · exact im_call (va_runIN (As := us.map (im_rv B b)) (b := B + o) (host := host) ⟨hexec, hb, rfl, hown, hts⟩ hM1 ⟨⟨hcw1, hcw2, hts _ hcw.2.1, hcw.2.2.1, hsg hcw, hts _ hl⟩, hname, hts _ hinst⟩ ⟨im_blind hg _ _, hPs⟩ rfl (by rw [List.length_map]; exact hus) hls rfl (by show 2 * 0 + _ ≤ 8; omega) hd ⟨hc1, hc2⟩) hS kk
  | invokestatic idx =>
    obtain ⟨np, hcw, hn, hlk, hstat⟩ := hi
    have hn : a2 = np := hn
    have hvs : vs.length = np := by
      have : vs.length = a2 := hlen
      omega
    rcases hlk with hl | ⟨host, hl⟩
    · exact im_call (va_runS (As := vs.map (im_rv B b)) ⟨hexec, hb, rfl, hown, hts⟩ (hM _ _ _ _ hcall) ⟨⟨(hcb' hcw).1, (hcb' hcw).2.1, (hcb' hcw).2.2.1, (hcb' hcw).2.2.2.1, (hcb' hcw).2.2.2.2.1, (hcb' hcw).2.2.2.2.2, hts _ hcw.1, hts _ hcw.2.1, hcw.2.2.1, hsg hcw, hts _ hl⟩, hts _ hstat⟩ ⟨im_blind hg _ _, hPs⟩ rfl (by rw [List.length_map]; exact hvs) hls rfl (by show 2 * 0 + _ ≤ 8; omega) hd ⟨hc1, hc2⟩) hS kk
    · exact im_call (va_runSN (As := vs.map (im_rv B b)) (host := host) ⟨hexec, hb, rfl, hown, hts⟩ (hM _ _ _ _ hcall) ⟨⟨hcb' hcw, hts _ hcw.1, hts _ hcw.2.1, hcw.2.2.1, hsg hcw, hts _ hl⟩, hts _ hstat, trivial⟩ ⟨im_blind hg _ _, hPs⟩ rfl (by rw [List.length_map]; exact hvs) hls rfl (by show 2 * 0 + _ ≤ 8; omega) hd ⟨hc1, hc2⟩) hS kk
  | _ => cases hi
end IMV
end
section
/-! what is not walked: Object's constructor, arraycopy of bytes, min, abs; then the whole machine -/
def im_ncopy (a0 a : Nat) (sp dp n : Int32) (h : im_H) : Option (Option Value × im_H) := match h[a0]?, h[a]? with
  | some (.inl (k0, n0, .inl f)), some (.inl (k1, n1, .inl g)) => if k0 = 1 ∧ k1 = 1 then (if sp < 0 ∨ dp < 0 ∨ n < 0 ∨ n0 < sp.toNatClampNeg + n.toNatClampNeg ∨ n1 < dp.toNatClampNeg + n.toNatClampNeg then none else
      if ((List.range n.toNatClampNeg).all fun i => fits .byte (.int (f (sp.toNatClampNeg + i)))) = true then some (none, h.set a (.inl (1, n1, .inl (va_cpy f g sp.toNatClampNeg dp.toNatClampNeg n.toNatClampNeg)))) else none) else none
  | _, _ => none
def im_nat : im_F := fun y vs h =>
  if y = 1920 then (match vs with
    | [.ref _] => some (none, h)
    | _ => none)
  else if y = 1921 then (match vs with
    | [.ref a0, .int sp, .ref a, .int dp, .int n] => im_ncopy a0 a sp dp n h
    | _ => none)
  else if y = 1922 then (match vs with
    | [.int x, .int z] => some (some (.int (if z < x then z else x)), h)
    | _ => none)
  else if y = 1923 then (match vs with
    | [.long x] => some (some (.long (if 0 < x then x else -x)), h)
    | _ => none)
  else none
theorem im_ncopy_some {a0 a : Nat} {sp dp n : Int32} {h : im_H} {r : Option Value} {h' : im_H} (hs : im_ncopy a0 a sp dp n h = some (r, h')) : ∃ (n0 n1 : Nat) (f g : Nat → Int32), h[a0]? = some (.inl (1, n0, .inl f)) ∧ h[a]? = some (.inl (1, n1, .inl g)) ∧ ¬ sp < 0 ∧ ¬ dp < 0 ∧ ¬ n < 0 ∧ sp.toNatClampNeg + n.toNatClampNeg ≤ n0 ∧ dp.toNatClampNeg + n.toNatClampNeg ≤ n1 ∧ (∀ i, i < n.toNatClampNeg → fits .byte (.int (f (sp.toNatClampNeg + i))) = true) ∧ r = none ∧ h' = h.set a (.inl (1, n1, .inl (va_cpy f g sp.toNatClampNeg dp.toNatClampNeg n.toNatClampNeg))) := by
  unfold im_ncopy at hs
  split at hs
  · rename_i k0 n0 f k1 n1 g h0 h1
    split at hs
    · rename_i hk
      obtain ⟨rfl, rfl⟩ := hk
      split at hs
      · cases hs
      · rename_i hc
        split at hs
        · rename_i hf
          cases hs
          refine ⟨n0, n1, f, g, h0, h1, fun z => hc (Or.inl z), fun z => hc (Or.inr (Or.inl z)), fun z => hc (Or.inr (Or.inr (Or.inl z))), Nat.not_lt.mp fun z => hc (Or.inr (Or.inr (Or.inr (Or.inl z)))), Nat.not_lt.mp fun z => hc (Or.inr (Or.inr (Or.inr (Or.inr z)))), fun i hi => List.all_eq_true.mp hf i (List.mem_range.mpr hi), rfl, rfl⟩
        · cases hs
    · cases hs
  · cases hs
theorem im_nat_up : im_Cup im_nat := by
  intro y vs h r h' hs
  unfold im_nat at hs
  split at hs
  · split at hs
    · cases hs; exact im_Up.rf _
    · cases hs
  · split at hs
    · split at hs
      · obtain ⟨n0, n1, f, g, -, h1, -, -, -, -, -, -, -, rfl⟩ := im_ncopy_some hs
        exact im_set_up h1 rfl
      · cases hs
    · split at hs
      · split at hs
        · cases hs; exact im_Up.rf _
        · cases hs
      · split at hs
        · split at hs
          · cases hs; exact im_Up.rf _
          · cases hs
        · cases hs
def im_natok (TB : List Jvm.Cond) (own : String) (x : im_X) : Prop := match x.1 with
  | .invokespecial idx => x.2.1 = 1920 ∧ x.2.2 = 1 ∧ Jvm.Cond.methodLink own idx Lib.objectInit ∈ TB ∧ Jvm.Cond.instanceMethod Lib.objectInit ∈ TB ∧ Jvm.Cond.code Lib.objectInit ⟨#[0xb1]⟩ 1 none ∈ TB
  | .invokestatic idx => (x.2.1 = 1921 ∧ x.2.2 = 5 ∧ Jvm.Cond.methodLink own idx arraycopyName ∈ TB ∧ Jvm.Cond.native arraycopyName ∈ TB ∧ Jvm.Cond.static arraycopyName ∈ TB ∧ Jvm.Cond.initialized "java/lang/System" ∈ TB) ∨
      (x.2.1 = 1922 ∧ x.2.2 = 2 ∧ Jvm.Cond.methodLink own idx Lib.Math.min.name ∈ TB ∧ Jvm.Cond.static Lib.Math.min.name ∈ TB ∧ Jvm.Cond.initialized "java/lang/Math" ∈ TB ∧ Jvm.Cond.code Lib.Math.min.name Lib.Math.min.code 2 (some .int) ∈ TB) ∨
      (x.2.1 = 1923 ∧ x.2.2 = 1 ∧ Jvm.Cond.methodLink own idx Lib.MathLoose.abs_long.x ∈ TB ∧ Jvm.Cond.static Lib.MathLoose.abs_long.x ∈ TB ∧ Jvm.Cond.initialized "java/lang/Math" ∈ TB ∧ Jvm.Cond.code Lib.MathLoose.abs_long.x Lib.MathLoose.abs_long.code 2 (some .long) ∈ TB)
  | _ => False
section IMN
variable {p : Program} {l : Launch} {e : Env} {R : Room} {s : State} {m : MethodId} {args : Array Value} {below : List Frame} {meth : Method} {c : Code} {Q : State → Prop} {H : Heap} {locs : List Loc} {cells slots : Nat}
variable {D : va_G} {cl : List vw_C} {tys : List (ClassId × FieldType)} {B b : Nat} {cc : ByteArray} {own mn : String} {TB : List Jvm.Cond} {T : im_T} {pc : Nat} {ls : Array Slot}
theorem im_rcopy {rest : List Value} {h : im_H} (hexec : p.tables.exec = Jvm.exec) (hb : c.code = cc) (hml : c.maxLocals = ls.size) {index : Nat} (hown : s.vm.findClass own = some m.cls) (hlink : (Jvm.Cond.methodLink own index arraycopyName).before args s = true) (hnat : (Jvm.Cond.native arraycopyName).before args s = true) (hstat : (Jvm.Cond.static arraycopyName).before args s = true) (hini : (Jvm.Cond.initialized "java/lang/System").before args s = true)
    (hK : im_K TB D cl tys s) (hki : im_kinds cl tys) (hW : im_W D cl tys B b h H) (hS : va_S (fun q => B ≤ q) s.heap H locs) {a0 a n0 n1 : Nat} {f g : Nat → Int32} (ha0 : h[a0]? = some (.inl (1, n0, .inl f))) (ha1 : h[a]? = some (.inl (1, n1, .inl g)))
    {sp dp n : Int32} (h1 : ¬ sp < 0) (h2 : ¬ dp < 0) (h3 : ¬ n < 0) (h4 : sp.toNatClampNeg + n.toNatClampNeg ≤ n0) (h5 : dp.toNatClampNeg + n.toNatClampNeg ≤ n1) (hfit : ∀ i, i < n.toNatClampNeg → fits .byte (.int (f (sp.toNatClampNeg + i))) = true)
    (hframes : 1 ≤ R.frames) (hlocals : (rest.map fun v => v.category).sum + (nativeFrameWords "java/lang/System" "arraycopy" 5 + 11) ≤ R.locals) (hdg : decode cc pc = .ok (.invokestatic index, 3))
    (kk : ∀ (H1 : Heap) (locs1 : List Loc), im_W D cl tys B b (h.set a (.inl (1, n1, .inl (va_cpy f g sp.toNatClampNeg dp.toNatClampNeg n.toNatClampNeg)))) H1 → va_S (fun q => B ≤ q) s.heap H1 locs1 → W p l e R s m args below meth c H1 locs1 cells slots Q (F0 m (pc + 3) ls rest)) : W p l e R s m args below meth c H locs cells slots Q (F0 m pc ls (.int n :: .int dp :: .ref (B + a) :: .int sp :: .ref (B + a0) :: rest)) := by
  have nn : ∀ z : Int32, ¬ z < 0 → z.toInt = (z.toNatClampNeg : Int) := by
    intro z hz
    have hz0 : (0 : Int) ≤ z.toInt := by
      have := Int32.not_lt.mp hz
      simpa using Int32.le_iff_toInt_le.mp this
    show z.toInt = ((z.toInt.toNat : Nat) : Int)
    omega
  intro T0 hT X
  have ht := hki 1 .byte rfl
  have hc0 : H[B + a0]? = some (vp_cell (im_tc tys 1) (n0, .inl f)) := hW.2 a0 _ ha0 trivial
  have hc1 : H[B + a]? = some (vp_cell (im_tc tys 1) (n1, .inl g)) := hW.2 a _ ha1 trivial
  obtain ⟨-, k0, hk0, cm0, hkk0⟩ := (hK.2.2 1 _ ht).1 n0 (fun j => .int (f j))
  obtain ⟨-, k1, hk1, cm1, hkk1⟩ := (hK.2.2 1 _ ht).1 n1 (fun j => .int (g j))
  obtain ⟨vm', X', step⟩ := X.arraycopy hexec hown hlink hnat hstat hini (src := B + a0) (dst := B + a) (cs := vp_cell (im_tc tys 1) (n0, .inl f)) (cd := vp_cell (im_tc tys 1) (n1, .inl g)) (srcPos := sp) (destPos := dp) (n := n) (by rw [hT]; exact hc0) (by rw [hT]; exact hc1)
    (fun _ h => by cases h) (fun _ h => by cases h) (fun h => by cases h) (fun h => by cases h) hk0 hk1 hkk0 hkk1 (by simp [refKind]) h1 h2 h3
    (by rw [nn sp h1, nn n h3]; show ¬ _ > ((arrV (im_tc tys 1) n0 (fun j => .int (f j))).slots.size : Int); rw [arrV_size]; omega)
    (by rw [nn dp h2, nn n h3]; show ¬ _ > ((arrV (im_tc tys 1) n1 (fun j => .int (g j))).slots.size : Int); rw [arrV_size]; omega)
    (fun vm₁ _ i hi => by
      have e : (vp_cell (im_tc tys 1) (n0, .inl f)).slots.getD (sp.toNatClampNeg + i) .null = .int (f (sp.toNatClampNeg + i)) := by
        show (arrV (im_tc tys 1) n0 (fun j => .int (f j))).slots.getD _ _ = _
        rw [Array.getD_eq_getD_getElem?, arrV_read _ _ (by omega)]
        rfl
      refine ⟨?_, ?_⟩
      · rw [e]
        exact hfit i hi
      · rw [e]
        exact trivial)
    (g := F0 m pc ls (.int n :: .int dp :: .ref (B + a) :: .int sp :: .ref (B + a0) :: rest)) rfl (by rw [hml]) (rest := rest) rfl (by rw [hb]; exact hdg) hframes (by show 2 * 0 + _ + _ ≤ _; omega)
  have e1 : copied (vp_cell (im_tc tys 1) (n0, .inl f)) (vp_cell (im_tc tys 1) (n1, .inl g)) sp dp n = vp_cell (im_tc tys 1) (n1, .inl (va_cpy f g sp.toNatClampNeg dp.toNatClampNeg n.toNatClampNeg)) := va_copied (fun z => .int z) (im_tc tys 1) (im_tc tys 1) f g h4
  rw [e1] at X' step
  have hl : B + a < H.size := (Array.getElem?_eq_some_iff.mp hc1).1
  have hheap : ((T0.setVm vm').setCell (B + a) (vp_cell (im_tc tys 1) (n1, .inl (va_cpy f g sp.toNatClampNeg dp.toNatClampNeg n.toNatClampNeg)))).heap = H.setIfInBounds (B + a) (vp_cell (im_tc tys 1) (n1, .inl (va_cpy f g sp.toNatClampNeg dp.toNatClampNeg n.toNatClampNeg))) := by rw [← hT]; rfl
  have oq : ∀ q : Nat, q ≠ B + a → (H.setIfInBounds (B + a) (vp_cell (im_tc tys 1) (n1, .inl (va_cpy f g sp.toNatClampNeg dp.toNatClampNeg n.toNatClampNeg))))[q]? = H[q]? := fun q hq => by simp [Array.getElem?_setIfInBounds, Ne.symm hq]
  have hA : ∀ q : Nat, q < s.heap.size → ¬ B ≤ q → (H.setIfInBounds (B + a) (vp_cell (im_tc tys 1) (n1, .inl (va_cpy f g sp.toNatClampNeg dp.toNatClampNeg n.toNatClampNeg))))[q]? = s.heap[q]? := fun q g1 g2 => by
    rw [oq q (by omega)]
    exact hS.2.1 q g1 g2
  obtain ⟨t, a1, b1⟩ := kk _ _ (hW.set (x := .inl (1, n1, .inl (va_cpy f g sp.toNatClampNeg dp.toNatClampNeg n.toNatClampNeg))) (fun _ => show (H.setIfInBounds (B + a) _)[B + a]? = some _ by simp [Array.getElem?_setIfInBounds, hl]; rfl) (by simp) oq) ⟨by simp; exact hS.1, hA, fun q hq => by
      rcases List.mem_append.mp hq with h | h
      · exact hS.2.2 q h
      · obtain ⟨z, -, hz⟩ := List.mem_map.mp h
        rw [← hz]
        exact Nat.le_add_right _ _⟩ _ hheap X'
  exact ⟨t, step t a1, b1⟩
end IMN
end
section
section IMO
variable {p : Program} {l : Launch} {e : Env} {R : Room} {s : State} {m : MethodId} {args : Array Value} {below : List Frame} {meth : Method} {c : Code} {Q : State → Prop}
variable {D : va_G} {cl : List vw_C} {tys : List (ClassId × FieldType)} {B b : Nat} {cc : ByteArray} {own mn : String} {TB : List Jvm.Cond} {T : im_T} {pc : Nat}
theorem im_natSite {call : im_F} (hx0 : im_Cx p s m meth c TB D cl tys B b T cc own mn) {x : im_X} (hR1 : 2 ≤ R.frames) (hR2 : 96 ≤ R.locals) (hd : im_dk cc pc x) (hi : im_natok TB own x) (hcall0 : ∀ vs h, call x.2.1 vs h = im_nat x.2.1 vs h) : im_Site p l e R s m args below meth c Q D cl tys B b call x pc := by
  obtain ⟨hexec, hb, hown, hmn, hK, hcl, hki, hB, -⟩ := hx0
  have hts : ∀ w ∈ TB, w.before args s = true := fun w hw => hK.1 w hw args
  intro vs rest h r h' H locs cells slots ls hcall hlen hrc hrest hW hS hls hc1 hc2 kk
  rw [hcall0] at hcall
  obtain ⟨i, a1, a2⟩ := x
  cases i with
  | invokespecial idx =>
    obtain ⟨h1, h2, h3, h4, h5⟩ := hi
    have h1 : a1 = 1920 := h1
    subst h1
    simp only [im_nat, if_true] at hcall
    split at hcall
    · rename_i o
      cases hcall
      rw [Nat.sub_self, Nat.sub_self, Nat.add_zero, Nat.add_zero] at kk
      refine W.objInit hexec hb hown (hts _ h3) (hts _ h4) (hts _ h5) (a := B + o) (rest := rest) rfl hls rfl hd (by omega) (by show 2 * 0 + _ + 12 ≤ _; omega) ?_
      exact kk H locs hW hS
    · cases hcall
  | invokestatic idx =>
    rcases hi with ⟨h1, h2, h3, h4, h5, h6⟩ | ⟨h1, h2, h3, h4, h5, h6⟩ | ⟨h1, h2, h3, h4, h5, h6⟩
    · have h1 : a1 = 1921 := h1
      subst h1
      simp only [im_nat] at hcall
      rw [if_neg (by decide), if_pos trivial] at hcall
      split at hcall
      · rename_i a0 sp a dp n
        obtain ⟨n0, n1, f, g, g0, g1, k1, k2, k3, k4, k5, k6, rfl, rfl⟩ := im_ncopy_some hcall
        rw [List.length_set, im_sz_set g1 (by simp [im_sc]), Nat.sub_self, Nat.sub_self, Nat.add_zero, Nat.add_zero] at kk
        exact im_rcopy (rest := rest) hexec hb hls.symm hown (hts _ h3) (hts _ h4) (hts _ h5) (hts _ h6) hK hki hW hS g0 g1 k1 k2 k3 k4 k5 k6 (by omega) (by show _ + (7 + 11) ≤ _; omega) hd kk
      · cases hcall
    · have h1 : a1 = 1922 := h1
      subst h1
      simp only [im_nat] at hcall
      rw [if_neg (by decide), if_neg (by decide), if_pos trivial] at hcall
      split at hcall
      · rename_i x z
        cases hcall
        rw [Nat.sub_self, Nat.add_zero] at hc1
        rw [Nat.sub_self, Nat.add_zero] at hc2
        rw [Nat.sub_self, Nat.sub_self, Nat.add_zero, Nat.add_zero] at kk
        exact va_mmin (rest := rest) hexec hb hls.symm hown (hts _ h3) (hts _ h4) (hts _ h5) (hts _ h6) (by omega) (by omega) hc1 hc2 hd (kk H locs hW hS)
      · cases hcall
    · have h1 : a1 = 1923 := h1
      subst h1
      simp only [im_nat] at hcall
      rw [if_neg (by decide), if_neg (by decide), if_neg (by decide), if_pos trivial] at hcall
      split at hcall
      · rename_i x
        cases hcall
        rw [Nat.sub_self, Nat.add_zero] at hc1
        rw [Nat.sub_self, Nat.add_zero] at hc2
        rw [Nat.sub_self, Nat.sub_self, Nat.add_zero, Nat.add_zero] at kk
        exact va_mabs_long (rest := rest) hexec hb hls.symm hown (hts _ h3) (hts _ h4) (hts _ h5) (hts _ h6) (by omega) (by omega) hc1 hc2 hd (kk H locs hW hS)
      · cases hcall
  | _ => cases hi
/-- the methods, as the tables have them -/
def im_Sys (TB : List Jvm.Cond) (cl : List vw_C) (I : Nat → MethodName × ByteArray) (M : Nat → Option im_M) : Prop := ∀ (y : Nat) (q : im_M), M y = some q → plainName (I y).1.cls = true ∧ ∀ (pc : Nat) (x : im_X), im_f q.1 pc = some x → im_dk (I y).2 pc x ∧ im_ok TB cl (I y).1.cls (I y).1.name x ∧
  (im_isinv x.1 = true → (∃ q', M x.2.1 = some q' ∧ im_inok TB cl (I y).1.cls x (I x.2.1) q') ∨ (M x.2.1 = none ∧ im_natok TB (I y).1.cls x))
theorem im_sExec {I : Nat → MethodName × ByteArray} {M : Nat → Option im_M} (hg : ∀ w ∈ TB, im_gw w = true) (hcl : im_cls TB T.1 cl) (hki : im_kinds cl tys) (hT : T.2 = none) (hsys : im_Sys TB cl I M) (n : Nat) :
    ∀ (d y : Nat) (q : im_M), M y = some q → ∀ (vs : List Value) (h : im_H) (r : Option Value) (h' : im_H), im_exec T M im_nat (d + 1) n y vs h = some (r, h') → im_Mt l TB D cl tys B b (I y) q d vs h r h' := by
  intro d
  induction d with
  | zero =>
    intro y q hq vs h r h' hs
    rw [im_exec, hq] at hs
    dsimp only at hs
    split at hs
    · rename_i hsl
      refine im_sMet (im_exec_up im_nat_up 0 n) (hsys y q hq).1 hg hcl hki hT (fun pc x hx => ⟨((hsys y q hq).2 pc x hx).1, ((hsys y q hq).2 pc x hx).2.1⟩) (n := n) (fun p e R s m args below meth c Q hCx hR1 hR2 pc x hx hinv => ?_) hsl hs
      intro vs rest h r h' H locs cells slots ls hcall
      cases hcall
    · cases hs
  | succ d ih =>
    intro y q hq vs h r h' hs
    rw [im_exec, hq] at hs
    dsimp only at hs
    split at hs
    · rename_i hsl
      refine im_sMet (im_exec_up im_nat_up (d + 1) n) (hsys y q hq).1 hg hcl hki hT (fun pc x hx => ⟨((hsys y q hq).2 pc x hx).1, ((hsys y q hq).2 pc x hx).2.1⟩) (n := n) (fun p e R s m args below meth c Q hCx hR1 hR2 pc x hx hinv => ?_) hsl hs
      obtain ⟨hdk, -, hin⟩ := (hsys y q hq).2 pc x hx
      rcases hin hinv with ⟨q', hq', hio⟩ | ⟨hn, hno⟩
      · exact im_site hg hCx (Nat.le_of_eq hR1.symm) (Nat.le_of_eq hR2.symm) hdk hio (fun vs h r h' hc => ih x.2.1 q' hq' vs h r h' hc)
      · refine im_natSite hCx (by omega) (by omega) hdk hno (fun vs h => ?_)
        rw [im_exec, hn]
    · cases hs
end IMO
end
