/-! WHAT THE CLASS'S octet THROWS, and how the law catches it -/
def xE : String := "java/lang/ArrayIndexOutOfBoundsException"
def xNs : List String := ["java/lang/IndexOutOfBoundsException", "java/lang/RuntimeException", "java/lang/Exception"]
def xWs : List Jvm.Cond := Jvm.Cond.classLink "MapText" 161 xE :: Jvm.Cond.initialized xE :: vx_at0 "MapText" 163 xE xNs
def xBad (w : Jvm.Cond) : Bool := match w with
  | .declares .. => true
  | .castable .. => true
  | _ => false
theorem xW_in : ∀ w ∈ xWs, w ∈ lw_tbl := by decide +kernel
theorem xW_ot : ∀ w ∈ xWs, vx_ot w = true := by decide +kernel
theorem xW_gb : ∀ w ∈ xWs, (goodWord w || xBad w) = true := by decide +kernel
def xK (U : State) : Prop := ∀ w ∈ xWs, ∀ a : Array Value, w.before a U = true
theorem xK.warm {s U : State} (hW : s.WarmedH U.vm) (h : xK s) : xK U := by
  intro w hw a
  have h1 := h w hw #[]
  have hb := xW_gb w hw
  by_cases g : goodWord w = true
  · exact word_at hW (good_of_word g) h1
  · have hx : xBad w = true := by
      rw [Bool.or_eq_true] at hb
      exact hb.resolve_left g
    unfold xBad at hx
    split at hx
    · exact va_Nw.use rfl (va_Nw.warmD hW h1)
    · exact va_Nw.use rfl (va_Nw.warmC hW h1)
    · cases hx
theorem xK.of {s : State} {args : Array Value} (h : ∀ w ∈ lw_tbl, w.before args s = true) : xK s := fun w hw a => vx_ot_at (State.WarmedH.refl s) rfl (xW_ot w hw) (h w (xW_in w hw))
def xZ (B : Nat) (U : State) : Prop := vx_Zq Bundle.tN "UNASSIGNED_STACK" Bundle.steD (fun q => B ≤ q) U U.heap ∧ vx_Zq Bundle.tN "SUPPRESSED_SENTINEL" Bundle.listD (fun q => B ≤ q) U U.heap
def xCell : im_C := .inr (99, [.null, .null, .null, .null, .null, .null])
/-! some steps of the small machine, no call among them -/
def im_pre (T : im_T) (ret : Option FieldType) (cd : List (Nat × im_X)) : Nat → Nat → im_L → List Value → im_H → Option (Nat × im_L × List Value × im_H)
  | 0, pc, L, st, h => some (pc, L, st, h)
  | n + 1, pc, L, st, h => (im_f cd pc).bind fun x => (im_step T (fun _ _ _ => none) ret x pc L st h).bind fun q => match q with
    | .inl (pc', L', st', h') => im_pre T ret cd n pc' L' st' h'
    | .inr _ => none
theorem im_pre.step {T : im_T} {ret : Option FieldType} {cd : List (Nat × im_X)} {n pc pc' : Nat} {L L' : im_L} {st st' : List Value} {h h' : im_H} {x : im_X} {z : Nat × im_L × List Value × im_H} (hf : im_f cd pc = some x) (hs : im_step T (fun _ _ _ => none) ret x pc L st h = some (.inl (pc', L', st', h'))) (k : im_pre T ret cd n pc' L' st' h' = some z) : im_pre T ret cd (n + 1) pc L st h = some z := by
  rw [im_pre, hf]
  show (im_step T (fun _ _ _ => none) ret x pc L st h).bind _ = _
  rw [hs]
  exact k
theorem im_noup : im_Cup (fun _ _ _ => none) := fun _ _ _ _ _ h => nomatch h
theorem im_pre_up {T : im_T} {ret : Option FieldType} {cd : List (Nat × im_X)} {pc2 : Nat} {L2 : im_L} {st2 : List Value} {h2 : im_H} : ∀ (n pc : Nat) (L : im_L) (st : List Value) (h : im_H), im_pre T ret cd n pc L st h = some (pc2, L2, st2, h2) → im_Up h h2
  | 0, pc, L, st, h, hs => by cases hs; exact im_Up.rf _
  | n + 1, pc, L, st, h, hs => by
    rw [im_pre] at hs
    obtain ⟨x, hx, h2'⟩ := Option.bind_eq_some_iff.mp hs
    obtain ⟨q, h3, h4⟩ := Option.bind_eq_some_iff.mp h2'
    have hu := im_step_up im_noup h3
    split at h4
    · have hv := im_pre_up n _ _ _ _ h4
      exact ⟨Nat.le_trans hu.1 hv.1, Nat.le_trans hu.2 hv.2⟩
    · cases h4
section IMX
variable {p : Program} {l : Launch} {e : Env} {R : Room} {s : State} {m : MethodId} {args : Array Value} {below : List Frame} {meth : Method} {c : Code} {Q : State → Prop}
variable {D : va_G} {cl : List vw_C} {tys : List (ClassId × FieldType)} {B b : Nat} {cc : ByteArray} {own mn : String} {TB : List Jvm.Cond} {T : im_T}
theorem im_sPre {ret : Option FieldType} {cd : List (Nat × im_X)} (hx0 : im_Cx p s m meth c TB D cl tys B b T cc own mn)
    (hcd : ∀ pc x, im_f cd pc = some x → im_dk cc pc x ∧ im_ok TB cl own mn x) {n0 s0 pc2 : Nat} {L2 : im_L} {st2 : List Value} {h2 : im_H} (hcap : h2.length - n0 ≤ R.cells) (hcap2 : im_sz h2 - s0 ≤ R.slots)
    (hfin : ∀ (ls : Array Slot) (H : Heap) (locs : List Loc), im_Lr B b ls L2 → L2.length = c.maxLocals → im_W D cl tys B b h2 H → va_S (fun q => B ≤ q) s.heap H locs → W p l e R s m args below meth c H locs (h2.length - n0) (im_sz h2 - s0) Q (F0 m pc2 ls (st2.map (im_rv B b)))) :
    ∀ (n pc : Nat) (L : im_L) (st : List Value) (h : im_H), im_pre T ret cd n pc L st h = some (pc2, L2, st2, h2) → ∀ (ls : Array Slot) (H : Heap) (locs : List Loc), im_Lr B b ls L → L.length = c.maxLocals → im_W D cl tys B b h H → va_S (fun q => B ≤ q) s.heap H locs → n0 ≤ h.length → s0 ≤ im_sz h →
      W p l e R s m args below meth c H locs (h.length - n0) (im_sz h - s0) Q (F0 m pc ls (st.map (im_rv B b))) := by
  intro n
  induction n with
  | zero =>
    intro pc L st h hs ls H locs hL hml hW hS hn0 hs0
    cases hs
    exact hfin ls H locs hL hml hW hS
  | succ n ih =>
    intro pc L st h hs ls H locs hL hml hW hS hn0 hs0
    have hup := im_pre_up _ _ _ _ _ hs
    rw [im_pre] at hs
    obtain ⟨x, hx, h2'⟩ := Option.bind_eq_some_iff.mp hs
    obtain ⟨q, h3, h4⟩ := Option.bind_eq_some_iff.mp h2'
    have hu := im_step_up im_noup h3
    have hv : im_Up (im_hp q) h2 := by
      split at h4
      · exact im_pre_up _ _ _ _ _ h4
      · cases h4
    refine im_sStep im_noup hx0 (hcd pc x hx).1 (hcd pc x hx).2 (fun _ => ?_) h3 hL hml hW hS hn0 hs0 (by have := hv.1; omega) (by have := hv.2; omega) ?_ ?_
    · intro vs rest h r h' H locs cells slots ls hcall
      cases hcall
    · intro pc' L' st' h'' hq ls' H' locs' hL' hlen hW' hS'
      subst hq
      exact ih pc' L' st' h'' h4 ls' H' locs' hL' (hlen.trans hml) hW' hS' (Nat.le_trans hn0 hu.1) (Nat.le_trans hs0 hu.2)
    · intro r' hq hE
      subst hq
      cases h4
end IMX
/-- what one method's table says -/
def im_Has (TB : List Jvm.Cond) (cl : List vw_C) (I : Nat → MethodName × ByteArray) (M : Nat → Option im_M) (e : im_E) : Prop := plainName e.1.1.cls = true ∧ ∀ (pc : Nat) (x : im_X), im_f e.2.1 pc = some x → im_dk e.1.2 pc x ∧ im_ok TB cl e.1.1.cls e.1.1.name x ∧
  (im_isinv x.1 = true → (∃ q', M x.2.1 = some q' ∧ im_inok TB cl e.1.1.cls x (I x.2.1) q') ∨ (M x.2.1 = none ∧ im_natok TB e.1.1.cls x))
