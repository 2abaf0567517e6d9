/-! what is not walked: Object's constructor, arraycopy of bytes, min, abs; then the whole machine -/
def im_ncopy (a0 a : Nat) (sp dp n : Int32) (h : im_H) : Option (Option Value × im_H) := match h[a0]?, h[a]? with
  | some (.inl (k0, n0, .inl f)), some (.inl (k1, n1, .inl g)) => if k0 = 1 ∧ k1 = 1 then (if sp < 0 ∨ dp < 0 ∨ n < 0 ∨ n0 < sp.toNatClampNeg + n.toNatClampNeg ∨ n1 < dp.toNatClampNeg + n.toNatClampNeg then none else
      if ((List.range n.toNatClampNeg).all fun i => fits .byte (.int (f (sp.toNatClampNeg + i)))) = true then some (none, h.set a (.inl (1, n1, .inl (va_cpy f g sp.toNatClampNeg dp.toNatClampNeg n.toNatClampNeg)))) else none) else none
  | _, _ => none
def im_nat : im_F := fun y vs h =>
  if y = 1920 then (match vs with
    | [.ref _] => some (none, h)
    | _ => none)
  else if y = 1921 then (match vs with
    | [.ref a0, .int sp, .ref a, .int dp, .int n] => im_ncopy a0 a sp dp n h
    | _ => none)
  else if y = 1922 then (match vs with
    | [.int x, .int z] => some (some (.int (if z < x then z else x)), h)
    | _ => none)
  else if y = 1923 then (match vs with
    | [.long x] => some (some (.long (if 0 < x then x else -x)), h)
    | _ => none)
  else none
theorem im_ncopy_some {a0 a : Nat} {sp dp n : Int32} {h : im_H} {r : Option Value} {h' : im_H} (hs : im_ncopy a0 a sp dp n h = some (r, h')) : ∃ (n0 n1 : Nat) (f g : Nat → Int32), h[a0]? = some (.inl (1, n0, .inl f)) ∧ h[a]? = some (.inl (1, n1, .inl g)) ∧ ¬ sp < 0 ∧ ¬ dp < 0 ∧ ¬ n < 0 ∧ sp.toNatClampNeg + n.toNatClampNeg ≤ n0 ∧ dp.toNatClampNeg + n.toNatClampNeg ≤ n1 ∧ (∀ i, i < n.toNatClampNeg → fits .byte (.int (f (sp.toNatClampNeg + i))) = true) ∧ r = none ∧ h' = h.set a (.inl (1, n1, .inl (va_cpy f g sp.toNatClampNeg dp.toNatClampNeg n.toNatClampNeg))) := by
  unfold im_ncopy at hs
  split at hs
  · rename_i k0 n0 f k1 n1 g h0 h1
    split at hs
    · rename_i hk
      obtain ⟨rfl, rfl⟩ := hk
      split at hs
      · cases hs
      · rename_i hc
        split at hs
        · rename_i hf
          cases hs
          refine ⟨n0, n1, f, g, h0, h1, fun z => hc (Or.inl z), fun z => hc (Or.inr (Or.inl z)), fun z => hc (Or.inr (Or.inr (Or.inl z))), Nat.not_lt.mp fun z => hc (Or.inr (Or.inr (Or.inr (Or.inl z)))), Nat.not_lt.mp fun z => hc (Or.inr (Or.inr (Or.inr (Or.inr z)))), fun i hi => List.all_eq_true.mp hf i (List.mem_range.mpr hi), rfl, rfl⟩
        · cases hs
    · cases hs
  · cases hs
theorem im_nat_up : im_Cup im_nat := by
  intro y vs h r h' hs
  unfold im_nat at hs
  split at hs
  · split at hs
    · cases hs; exact im_Up.rf _
    · cases hs
  · split at hs
    · split at hs
      · obtain ⟨n0, n1, f, g, -, h1, -, -, -, -, -, -, -, rfl⟩ := im_ncopy_some hs
        exact im_set_up h1 rfl
      · cases hs
    · split at hs
      · split at hs
        · cases hs; exact im_Up.rf _
        · cases hs
      · split at hs
        · split at hs
          · cases hs; exact im_Up.rf _
          · cases hs
        · cases hs
def im_natok (TB : List Jvm.Cond) (own : String) (x : im_X) : Prop := match x.1 with
  | .invokespecial idx => x.2.1 = 1920 ∧ x.2.2 = 1 ∧ Jvm.Cond.methodLink own idx Lib.objectInit ∈ TB ∧ Jvm.Cond.instanceMethod Lib.objectInit ∈ TB ∧ Jvm.Cond.code Lib.objectInit ⟨#[0xb1]⟩ 1 none ∈ TB
  | .invokestatic idx => (x.2.1 = 1921 ∧ x.2.2 = 5 ∧ Jvm.Cond.methodLink own idx arraycopyName ∈ TB ∧ Jvm.Cond.native arraycopyName ∈ TB ∧ Jvm.Cond.static arraycopyName ∈ TB ∧ Jvm.Cond.initialized "java/lang/System" ∈ TB) ∨
      (x.2.1 = 1922 ∧ x.2.2 = 2 ∧ Jvm.Cond.methodLink own idx Lib.Math.min.name ∈ TB ∧ Jvm.Cond.static Lib.Math.min.name ∈ TB ∧ Jvm.Cond.initialized "java/lang/Math" ∈ TB ∧ Jvm.Cond.code Lib.Math.min.name Lib.Math.min.code 2 (some .int) ∈ TB) ∨
      (x.2.1 = 1923 ∧ x.2.2 = 1 ∧ Jvm.Cond.methodLink own idx Lib.MathLoose.abs_long.x ∈ TB ∧ Jvm.Cond.static Lib.MathLoose.abs_long.x ∈ TB ∧ Jvm.Cond.initialized "java/lang/Math" ∈ TB ∧ Jvm.Cond.code Lib.MathLoose.abs_long.x Lib.MathLoose.abs_long.code 2 (some .long) ∈ TB)
  | _ => False
section IMN
variable {p : Program} {l : Launch} {e : Env} {R : Room} {s : State} {m : MethodId} {args : Array Value} {below : List Frame} {meth : Method} {c : Code} {Q : State → Prop} {H : Heap} {locs : List Loc} {cells slots : Nat}
variable {D : va_G} {cl : List vw_C} {tys : List (ClassId × FieldType)} {B b : Nat} {cc : ByteArray} {own mn : String} {TB : List Jvm.Cond} {T : im_T} {pc : Nat} {ls : Array Slot}
theorem im_rcopy {rest : List Value} {h : im_H} (hexec : p.tables.exec = Jvm.exec) (hb : c.code = cc) (hml : c.maxLocals = ls.size) {index : Nat} (hown : s.vm.findClass own = some m.cls) (hlink : (Jvm.Cond.methodLink own index arraycopyName).before args s = true) (hnat : (Jvm.Cond.native arraycopyName).before args s = true) (hstat : (Jvm.Cond.static arraycopyName).before args s = true) (hini : (Jvm.Cond.initialized "java/lang/System").before args s = true)
    (hK : im_K TB D cl tys s) (hki : im_kinds cl tys) (hW : im_W D cl tys B b h H) (hS : va_S (fun q => B ≤ q) s.heap H locs) {a0 a n0 n1 : Nat} {f g : Nat → Int32} (ha0 : h[a0]? = some (.inl (1, n0, .inl f))) (ha1 : h[a]? = some (.inl (1, n1, .inl g)))
    {sp dp n : Int32} (h1 : ¬ sp < 0) (h2 : ¬ dp < 0) (h3 : ¬ n < 0) (h4 : sp.toNatClampNeg + n.toNatClampNeg ≤ n0) (h5 : dp.toNatClampNeg + n.toNatClampNeg ≤ n1) (hfit : ∀ i, i < n.toNatClampNeg → fits .byte (.int (f (sp.toNatClampNeg + i))) = true)
    (hframes : 1 ≤ R.frames) (hlocals : (rest.map fun v => v.category).sum + (nativeFrameWords "java/lang/System" "arraycopy" 5 + 11) ≤ R.locals) (hdg : decode cc pc = .ok (.invokestatic index, 3))
    (kk : ∀ (H1 : Heap) (locs1 : List Loc), im_W D cl tys B b (h.set a (.inl (1, n1, .inl (va_cpy f g sp.toNatClampNeg dp.toNatClampNeg n.toNatClampNeg)))) H1 → va_S (fun q => B ≤ q) s.heap H1 locs1 → W p l e R s m args below meth c H1 locs1 cells slots Q (F0 m (pc + 3) ls rest)) : W p l e R s m args below meth c H locs cells slots Q (F0 m pc ls (.int n :: .int dp :: .ref (B + a) :: .int sp :: .ref (B + a0) :: rest)) := by
  have nn : ∀ z : Int32, ¬ z < 0 → z.toInt = (z.toNatClampNeg : Int) := by
    intro z hz
    have hz0 : (0 : Int) ≤ z.toInt := by
      have := Int32.not_lt.mp hz
      simpa using Int32.le_iff_toInt_le.mp this
    show z.toInt = ((z.toInt.toNat : Nat) : Int)
    omega
  intro T0 hT X
  have ht := hki 1 .byte rfl
  have hc0 : H[B + a0]? = some (vp_cell (im_tc tys 1) (n0, .inl f)) := hW.2 a0 _ ha0 trivial
  have hc1 : H[B + a]? = some (vp_cell (im_tc tys 1) (n1, .inl g)) := hW.2 a _ ha1 trivial
  obtain ⟨-, k0, hk0, cm0, hkk0⟩ := (hK.2.2 1 _ ht).1 n0 (fun j => .int (f j))
  obtain ⟨-, k1, hk1, cm1, hkk1⟩ := (hK.2.2 1 _ ht).1 n1 (fun j => .int (g j))
  obtain ⟨vm', X', step⟩ := X.arraycopy hexec hown hlink hnat hstat hini (src := B + a0) (dst := B + a) (cs := vp_cell (im_tc tys 1) (n0, .inl f)) (cd := vp_cell (im_tc tys 1) (n1, .inl g)) (srcPos := sp) (destPos := dp) (n := n) (by rw [hT]; exact hc0) (by rw [hT]; exact hc1)
    (fun _ h => by cases h) (fun _ h => by cases h) (fun h => by cases h) (fun h => by cases h) hk0 hk1 hkk0 hkk1 (by simp [refKind]) h1 h2 h3
    (by rw [nn sp h1, nn n h3]; show ¬ _ > ((arrV (im_tc tys 1) n0 (fun j => .int (f j))).slots.size : Int); rw [arrV_size]; omega)
    (by rw [nn dp h2, nn n h3]; show ¬ _ > ((arrV (im_tc tys 1) n1 (fun j => .int (g j))).slots.size : Int); rw [arrV_size]; omega)
    (fun vm₁ _ i hi => by
      have e : (vp_cell (im_tc tys 1) (n0, .inl f)).slots.getD (sp.toNatClampNeg + i) .null = .int (f (sp.toNatClampNeg + i)) := by
        show (arrV (im_tc tys 1) n0 (fun j => .int (f j))).slots.getD _ _ = _
        rw [Array.getD_eq_getD_getElem?, arrV_read _ _ (by omega)]
        rfl
      refine ⟨?_, ?_⟩
      · rw [e]
        exact hfit i hi
      · rw [e]
        exact trivial)
    (g := F0 m pc ls (.int n :: .int dp :: .ref (B + a) :: .int sp :: .ref (B + a0) :: rest)) rfl (by rw [hml]) (rest := rest) rfl (by rw [hb]; exact hdg) hframes (by show 2 * 0 + _ + _ ≤ _; omega)
  have e1 : copied (vp_cell (im_tc tys 1) (n0, .inl f)) (vp_cell (im_tc tys 1) (n1, .inl g)) sp dp n = vp_cell (im_tc tys 1) (n1, .inl (va_cpy f g sp.toNatClampNeg dp.toNatClampNeg n.toNatClampNeg)) := va_copied (fun z => .int z) (im_tc tys 1) (im_tc tys 1) f g h4
  rw [e1] at X' step
  have hl : B + a < H.size := (Array.getElem?_eq_some_iff.mp hc1).1
  have hheap : ((T0.setVm vm').setCell (B + a) (vp_cell (im_tc tys 1) (n1, .inl (va_cpy f g sp.toNatClampNeg dp.toNatClampNeg n.toNatClampNeg)))).heap = H.setIfInBounds (B + a) (vp_cell (im_tc tys 1) (n1, .inl (va_cpy f g sp.toNatClampNeg dp.toNatClampNeg n.toNatClampNeg))) := by rw [← hT]; rfl
  have oq : ∀ q : Nat, q ≠ B + a → (H.setIfInBounds (B + a) (vp_cell (im_tc tys 1) (n1, .inl (va_cpy f g sp.toNatClampNeg dp.toNatClampNeg n.toNatClampNeg))))[q]? = H[q]? := fun q hq => by simp [Array.getElem?_setIfInBounds, Ne.symm hq]
  have hA : ∀ q : Nat, q < s.heap.size → ¬ B ≤ q → (H.setIfInBounds (B + a) (vp_cell (im_tc tys 1) (n1, .inl (va_cpy f g sp.toNatClampNeg dp.toNatClampNeg n.toNatClampNeg))))[q]? = s.heap[q]? := fun q g1 g2 => by
    rw [oq q (by omega)]
    exact hS.2.1 q g1 g2
  obtain ⟨t, a1, b1⟩ := kk _ _ (hW.set (x := .inl (1, n1, .inl (va_cpy f g sp.toNatClampNeg dp.toNatClampNeg n.toNatClampNeg))) (fun _ => show (H.setIfInBounds (B + a) _)[B + a]? = some _ by simp [Array.getElem?_setIfInBounds, hl]; rfl) (by simp) oq) ⟨by simp; exact hS.1, hA, fun q hq => by
      rcases List.mem_append.mp hq with h | h
      · exact hS.2.2 q h
      · obtain ⟨z, -, hz⟩ := List.mem_map.mp h
        rw [← hz]
        exact Nat.le_add_right _ _⟩ _ hheap X'
  exact ⟨t, step t a1, b1⟩
end IMN
