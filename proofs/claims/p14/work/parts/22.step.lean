/-! one step -/
def im_K (TB : List Jvm.Cond) (D : va_G) (cl : List vw_C) (tys : List (ClassId × FieldType)) (U : State) : Prop := (∀ w ∈ TB, ∀ a : Array Value, w.before a U = true) ∧ va_K D cl tys U
def im_cls (TB : List Jvm.Cond) (F : Nat → List FieldType) (cl : List vw_C) : Prop := ∀ (ci : Nat) (C : String) (Tt : u_T) (N : Nat), cl[ci]? = some (C, Tt, N) → (∀ w ∈ u_ws C Tt N, w ∈ TB) ∧ (F ci).length = N ∧ (∀ k, k < N → parseFieldDescriptor (Tt k).2.2.1 = (F ci)[k]?) ∧ (∀ a, a < N → ∀ b, b < N → a ≠ b → (Tt a).2.1 ≠ (Tt b).2.1)
/-- the classes of which there are arrays -/
def im_kk (j : Nat) : Bool := j == 2 || (j == 3 || j == 6)
def im_kty (cl : List vw_C) (k : Nat) : Option FieldType := match k with
  | 0 => some .int
  | 1 => some .byte
  | 2 => some .long
  | j + 3 => if im_kk j = true then (cl[j]?).map fun r => .object r.1 else none
def im_kinds (cl : List vw_C) (tys : List (ClassId × FieldType)) : Prop := ∀ (k : Nat) (ty : FieldType), im_kty cl k = some ty → tys[k]? = some (im_tc tys k, ty)
def im_lk (TB : List Jvm.Cond) (own : String) (idx : Nat) (q : String × String × String × Bool) : Prop := Jvm.Cond.fieldLink own idx q.1 q.2.1 q.2.2.1 ∈ TB ∨ ∃ host : String, Jvm.Cond.fieldLinkNest own idx q.1 q.2.1 q.2.2.1 host ∈ TB
def im_ok (TB : List Jvm.Cond) (cl : List vw_C) (own mn : String) (x : im_X) : Prop := match x.1 with
  | .getfield idx => ∃ (C : String) (Tt : u_T) (N : Nat), cl[x.2.1]? = some (C, Tt, N) ∧ x.2.2 < N ∧ im_lk TB own idx (Tt x.2.2)
  | .putfield idx => ∃ (C : String) (Tt : u_T) (N : Nat), cl[x.2.1]? = some (C, Tt, N) ∧ x.2.2 < N ∧ (((Tt x.2.2).2.2.2 = false ∧ im_lk TB own idx (Tt x.2.2)) ∨ ((Tt x.2.2).2.2.2 = true ∧ mn = "<init>" ∧ (Tt x.2.2).1 = own ∧ Jvm.Cond.fieldLink own idx (Tt x.2.2).1 (Tt x.2.2).2.1 (Tt x.2.2).2.2.1 ∈ TB))
  | .new idx => ∃ (C : String) (Tt : u_T) (N : Nat), cl[x.2.1]? = some (C, Tt, N) ∧ Jvm.Cond.classLink own idx C ∈ TB ∧ Jvm.Cond.instantiable C N ∈ TB ∧ Jvm.Cond.initialized C ∈ TB
  | .newarray t => x.2.1 < 3 ∧ im_kty cl x.2.1 = some (newarray.typeOf t) ∧ Jvm.Cond.arrayClass (newarray.typeOf t) ∈ TB
  | .anewarray idx => ∃ (C : String) (Tt : u_T) (N : Nat), cl[x.2.1]? = some (C, Tt, N) ∧ Jvm.Cond.classLink own idx C ∈ TB ∧ Jvm.Cond.arrayOver (.object C) ∈ TB ∧ im_kk x.2.1 = true
  | .aaload | .aastore => ∃ (C : String) (Tt : u_T) (N : Nat), cl[x.2.1]? = some (C, Tt, N) ∧ im_kk x.2.1 = true
  | .arraylength => ∃ ty : FieldType, im_kty cl x.2.1 = some ty
  | .ldc2_w idx => Jvm.Cond.constantLong own idx (Int64.ofNat x.2.1) ∈ TB
  | .lookupswitch _ ps => (ps.toList.zip (ps.toList.drop 1)).all (fun (a, next) => a.1 < next.1) = true
  | _ => True
def im_len (i : Instr) : Nat := match i with
  | .bipush _ | .iload _ | .lload _ | .aload _ | .istore _ | .lstore _ | .astore _ | .newarray _ => 2
  | .sipush _ | .ldc2_w _ | .iinc _ _ | .goto _ | .ifCond _ _ | .if_icmp _ _ | .ifnull _ | .ifnonnull _ | .getfield _ | .putfield _ | .new _ | .anewarray _ | .invokevirtual _ | .invokespecial _ | .invokestatic _ => 3
  | _ => 1
def im_dk (cc : ByteArray) (pc : Nat) (x : im_X) : Prop := match x.1 with
  | .tableswitch a b c d => decode cc pc = .ok (.tableswitch a b c d, x.2.1)
  | .lookupswitch a b => decode cc pc = .ok (.lookupswitch a b, x.2.1)
  | .ifCond a off => decode cc pc = .ok (.ifCond a off, 3) ∧ 0 ≤ (pc : Int) + off
  | .if_icmp a off => decode cc pc = .ok (.if_icmp a off, 3) ∧ 0 ≤ (pc : Int) + off
  | .ifnull off => decode cc pc = .ok (.ifnull off, 3) ∧ 0 ≤ (pc : Int) + off
  | .ifnonnull off => decode cc pc = .ok (.ifnonnull off, 3) ∧ 0 ≤ (pc : Int) + off
  | i => decode cc pc = .ok (i, im_len i)
def im_isinv (i : Instr) : Bool := match i with
  | .invokevirtual _ | .invokespecial _ | .invokestatic _ => true
  | _ => false
section IMS
variable {p : Program} {l : Launch} {e : Env} {R : Room} {s : State} {m : MethodId} {args : Array Value} {below : List Frame} {meth : Method} {c : Code} {Q : State → Prop}
variable {D : va_G} {cl : List vw_C} {tys : List (ClassId × FieldType)} {B b : Nat}
/-- the receiver of a call, where it has one -/
def im_Rc (i : Instr) (y n : Nat) (vs : List Value) (h : im_H) : Prop := match i with
  | .invokevirtual _ => 0 < n → ∃ (o : Nat) (fs us : List Value), vs = .ref o :: us ∧ h[o]? = some (.inr (y / 64, fs))
  | .invokespecial _ => 0 < n → ∃ (o : Nat) (us : List Value), vs = .ref o :: us
  | _ => True
/-- what a call needs: where it stands, and what comes behind it -/
def im_Site (p : Program) (l : Launch) (e : Env) (R : Room) (s : State) (m : MethodId) (args : Array Value) (below : List Frame) (meth : Method) (c : Code) (Q : State → Prop) (D : va_G) (cl : List vw_C) (tys : List (ClassId × FieldType)) (B b : Nat) (call : im_F) (x : im_X) (pc : Nat) : Prop :=
  ∀ (vs rest : List Value) (h : im_H) (r : Option Value) (h' : im_H) (H : Heap) (locs : List Loc) (cells slots : Nat) (ls : Array Slot),
    call x.2.1 vs h = some (r, h') → vs.length = x.2.2 → im_Rc x.1 x.2.1 x.2.2 vs h → (rest.map fun v => v.category).sum ≤ 8 → im_W D cl tys B b h H → va_S (fun q => B ≤ q) s.heap H locs → ls.size = c.maxLocals →
    cells + (h'.length - h.length) ≤ R.cells → slots + (im_sz h' - im_sz h) ≤ R.slots →
    (∀ (H1 : Heap) (locs1 : List Loc), im_W D cl tys B b h' H1 → va_S (fun q => B ≤ q) s.heap H1 locs1 →
      W p l e R s m args below meth c H1 locs1 (cells + (h'.length - h.length)) (slots + (im_sz h' - im_sz h)) Q (F0 m (pc + 3) ls (r.toList.map (im_rv B b) ++ rest))) →
    W p l e R s m args below meth c H locs cells slots Q (F0 m pc ls ((vs.map (im_rv B b)).reverse ++ rest))
/-- where a method ends -/
def im_End (cc : ByteArray) (ret : Option FieldType) (pc : Nat) (r : Option Value) : Prop :=
  (∃ (v : Int32) (ty : FieldType), r = some (.int v) ∧ ret = some ty ∧ im_fit ty (.int v) = true ∧ decode cc pc = .ok (.ireturn, 1)) ∨ (∃ v : Value, r = some v ∧ im_isref v = true ∧ im_isrt ret = true ∧ decode cc pc = .ok (.areturn, 1)) ∨ (r = none ∧ ret = none ∧ decode cc pc = .ok (.return_, 1))
theorem im_rcv_some {ci : Option Nat} {v : Option Value} {h : im_H} (hr : im_rcv ci v h = true) : ∃ o : Nat, v = some (.ref o) ∧ ∀ k, ci = some k → ∃ fs, h[o]? = some (.inr (k, fs)) := by
  unfold im_rcv at hr
  split at hr
  · rename_i o
    refine ⟨o, rfl, fun k hk => ?_⟩
    subst hk
    dsimp only at hr
    split at hr
    · rename_i cj fs hx
      exact ⟨fs, by rw [hx, of_decide_eq_true hr]⟩
    · cases hr
  · cases hr
theorem im_take_rcv {st : List Value} {n o : Nat} (hn : n ≤ st.length) (h0 : 0 < n) (h : st[n - 1]? = some (.ref o)) : ∃ us : List Value, (st.take n).reverse = .ref o :: us := by
  have hl : (st.take n).reverse[0]? = some (.ref o) := by
    rw [List.getElem?_reverse (by rw [List.length_take]; omega), List.length_take, Nat.min_eq_left hn, List.getElem?_take, if_pos (by omega)]
    rw [show n - 1 - 0 = n - 1 by omega]
    exact h
  cases hz : (st.take n).reverse with
  | nil => rw [hz] at hl; cases hl
  | cons a us => rw [hz] at hl; cases hl; exact ⟨us, rfl⟩
theorem im_out_in {i : Int32} {n : Nat} (h : ¬ im_out i n = true) : vp_in i n := by
  intro hq
  exact h (by unfold im_out; exact decide_eq_true hq)
theorem im_fit_n {ty : FieldType} {v : Value} (h : im_fit ty v = true) : narrow ty (im_rv B b v) = im_rv B b v ∧ fits ty (im_rv B b v) = true := by
  unfold im_fit at h
  split at h
  · exact ⟨rfl, rfl⟩
  · rename_i x
    simp only [Bool.or_eq_true, beq_iff_eq] at h
    rcases h with rfl | rfl
    · exact ⟨show narrow .boolean (.int 0) = .int 0 by decide, show fits .boolean (.int 0) = true by decide⟩
    · exact ⟨show narrow .boolean (.int 1) = .int 1 by decide, show fits .boolean (.int 1) = true by decide⟩
  · rename_i x
    have hx : x.toInt8.toInt32 = x := by simpa using h
    refine ⟨?_, ?_⟩
    · show narrow .byte (.int x) = .int x
      rw [← hx]; exact pk_nb x
    · show fits .byte (.int x) = true
      rw [← hx]; exact pk_fb x
  · exact ⟨rfl, rfl⟩
  · exact ⟨rfl, rfl⟩
  · exact ⟨rfl, rfl⟩
  · exact ⟨rfl, rfl⟩
  · exact ⟨rfl, rfl⟩
  · cases h
theorem im_rf (B b : Nat) (o : Option Nat) : va_rf (o.map fun a => B + a) = im_rv B b (va_rf o) := by cases o <;> rfl
end IMS
