/-! a run, a method, a call -/
def im_gw (w : Jvm.Cond) : Bool := goodWord w || (match w with
  | .fieldLinkNest .. => true
  | .methodLinkNest .. => true
  | .arrayOver (.object _) => true
  | _ => false)
section IMV
variable {p : Program} {l : Launch} {e : Env} {R : Room} {s : State} {m : MethodId} {args : Array Value} {below : List Frame} {meth : Method} {c : Code} {Q : State → Prop} {H : Heap} {locs : List Loc} {cells slots : Nat}
variable {D : va_G} {cl : List vw_C} {tys : List (ClassId × FieldType)} {B b : Nat} {cc : ByteArray} {own mn : String} {TB : List Jvm.Cond} {T : im_T} {pc : Nat} {ls : Array Slot}
theorem im_K.warm {U : State} (hg : ∀ w ∈ TB, im_gw w = true) (hW : s.WarmedH U.vm) (hK : im_K TB D cl tys s) : im_K TB D cl tys U := by
  refine ⟨fun w hw a => ?_, hK.2.moved hW.alike⟩
  have h1 := hg w hw
  unfold im_gw at h1
  rw [Bool.or_eq_true] at h1
  obtain h | h := h1
  · exact word_at hW (good_of_word h) (hK.1 w hw #[])
  · split at h
    · exact va_Nw.use rfl (va_Nw.warmF hW (hK.1 _ hw #[]))
    · exact va_Nw.use rfl (va_Nw.warmM hW (hK.1 _ hw #[]))
    · exact va_AO.use (va_AO.moved hW.alike (hK.1 _ hw #[]))
    · cases h
theorem im_K.same {u U : State} (hg : ∀ w ∈ TB, im_gw w = true) (hvm : u.vm = U.vm) (hK : im_K TB D cl tys u) : im_K TB D cl tys U :=
  hK.warm hg (by rw [← hvm]; exact State.WarmedH.refl u)
theorem im_sRun {call : im_F} {ret : Option FieldType} {cd : List (Nat × im_X)} (hup : im_Cup call) (hx0 : im_Cx p s m meth c TB D cl tys B b T cc own mn)
    (hcd : ∀ pc x, im_f cd pc = some x → im_dk cc pc x ∧ im_ok TB cl own mn x) (hsite : ∀ pc x, im_f cd pc = some x → im_isinv x.1 = true → im_Site p l e R s m args below meth c Q D cl tys B b call x pc)
    {n0 s0 : Nat} {r : Option Value} {h' : im_H} (hcap : h'.length - n0 ≤ R.cells) (hcap2 : im_sz h' - s0 ≤ R.slots)
    (hfin : ∀ (pc : Nat) (ls : Array Slot) (H : Heap) (locs : List Loc), im_W D cl tys B b h' H → va_S (fun q => B ≤ q) s.heap H locs → im_End cc ret pc r → W p l e R s m args below meth c H locs (h'.length - n0) (im_sz h' - s0) Q (F0 m pc ls (r.toList.map (im_rv B b)))) :
    ∀ (n pc : Nat) (L : im_L) (st : List Value) (h : im_H), im_run T call ret cd n pc L st h = some (r, h') → ∀ (ls : Array Slot) (H : Heap) (locs : List Loc), im_Lr B b ls L → L.length = c.maxLocals → im_W D cl tys B b h H → va_S (fun q => B ≤ q) s.heap H locs → n0 ≤ h.length → s0 ≤ im_sz h →
      W p l e R s m args below meth c H locs (h.length - n0) (im_sz h - s0) Q (F0 m pc ls (st.map (im_rv B b))) := by
  intro n
  induction n with
  | zero => intro pc L st h hs; cases hs
  | succ n ih =>
    intro pc L st h hs ls H locs hL hml hW hS hn0 hs0
    rw [im_run] at hs
    obtain ⟨x, hx, h2⟩ := Option.bind_eq_some_iff.mp hs
    obtain ⟨q, h3, h4⟩ := Option.bind_eq_some_iff.mp h2
    have hu := im_step_up hup h3
    have hv : im_Up (im_hp q) h' := by
      split at h4
      · exact im_run_up hup _ _ _ _ _ _ _ h4
      · cases h4; exact im_Up.rf _
    refine im_sStep hup hx0 (hcd pc x hx).1 (hcd pc x hx).2 (hsite pc x hx) h3 hL hml hW hS hn0 hs0 (by have := hv.1; omega) (by have := hv.2; omega) ?_ ?_
    · intro pc' L' st' h'' hq ls' H' locs' hL' hlen hW' hS'
      subst hq
      exact ih pc' L' st' h'' h4 ls' H' locs' hL' (hlen.trans hml) hW' hS' (Nat.le_trans hn0 hu.1) (Nat.le_trans hs0 hu.2)
    · intro r' hq hE
      subst hq
      cases h4
      exact hfin pc ls H locs hW hS hE
def im_rm (d mc ms : Nat) : Room := { frames := d + 1, cells := mc, slots := ms, locals := 48 * d + 48 }
def im_Qc (D : va_G) (cl : List vw_C) (tys : List (ClassId × FieldType)) (B b : Nat) (r : Option Value) (h' : im_H) : Array Value → State → Outcome → State → Prop := fun _ st o t => o = .returned (r.map (im_rv B b)) ∧ im_W D cl tys B b h' t.heap ∧ va_F (fun q => B ≤ q) st t
/-- a call of the method keeps to what the small machine says -/
def im_Mt (l : Launch) (TB : List Jvm.Cond) (D : va_G) (cl : List vw_C) (tys : List (ClassId × FieldType)) (B b : Nat) (y : MethodName × ByteArray) (q : im_M) (d : Nat) (vs : List Value) (h : im_H) (r : Option Value) (h' : im_H) : Prop :=
  Met l y.1 [Jvm.Cond.code y.1 y.2 q.2.1 q.2.2] (im_rm d (h'.length - h.length) (im_sz h' - im_sz h)) (va_Pc (vs.map (im_rv B b)) (fun U => im_K TB D cl tys U ∧ im_W D cl tys B b h U.heap)) (im_Qc D cl tys B b r h') (h'.length - h.length) (im_sz h' - im_sz h) (fun q => B ≤ q)
theorem im_ent_len {vs : List Value} {n : Nat} (hn : (im_sl vs).length ≤ n) : (im_ent vs n).length = n := by
  unfold im_ent
  rw [List.length_append, List.length_replicate]
  omega
theorem im_sl_map (B b : Nat) (vs : List Value) : lg_sl (vs.map (im_rv B b)) = (im_sl vs).map (fun o => match o with | some v => Slot.val (im_rv B b v) | none => Slot.second) := by
  induction vs with
  | nil => rfl
  | cons v t ih =>
    unfold lg_sl im_sl at ih ⊢
    rw [List.map_cons, List.flatMap_cons, List.flatMap_cons, List.map_append, ih, im_rv_cat]
    by_cases hc : v.category = 2
    · rw [if_pos hc, if_pos hc]; rfl
    · rw [if_neg hc, if_neg hc]; rfl
theorem im_entry {vs : List Value} {n : Nat} (hn : (im_sl vs).length ≤ n) : im_Lr B b (lg_sl (vs.map (im_rv B b)) ++ List.replicate (n - (lg_sl (vs.map (im_rv B b))).length) Slot.unset).toArray (im_ent vs n) := by
  have hlen : (lg_sl (vs.map (im_rv B b))).length = (im_sl vs).length := by rw [im_sl_map, List.length_map]
  have hl := lv_entry (vs.map (im_rv B b)) (n := n) (by rw [hlen]; exact hn)
  refine ⟨⟨by rw [im_ent_len hn]; exact hl.1, hl.2.1, fun q hq => by cases hq⟩, fun i v hi => ?_⟩
  rw [List.getElem?_toArray]
  unfold im_ent at hi
  by_cases hi2 : i < (im_sl vs).length
  · rw [List.getElem?_append_left hi2] at hi
    rw [List.getElem?_append_left (by rw [hlen]; exact hi2), im_sl_map, List.getElem?_map, hi]
    rfl
  · rw [List.getElem?_append_right (by omega), List.getElem?_replicate] at hi
    split at hi
    · cases hi
    · cases hi
theorem im_sMet {call : im_F} {y : MethodName × ByteArray} {q : im_M} (hup : im_Cup call) (hpl : plainName y.1.cls = true) (hg : ∀ w ∈ TB, im_gw w = true) (hcl : im_cls TB T.1 cl) (hki : im_kinds cl tys) (hT : T.2 = none)
    (hcd : ∀ pc x, im_f q.1 pc = some x → im_dk y.2 pc x ∧ im_ok TB cl y.1.cls y.1.name x) {d n : Nat}
    (hsite : ∀ (p : Program) (e : Env) (R : Room) (s : State) (m : MethodId) (args : Array Value) (below : List Frame) (meth : Method) (c : Code) (Q : State → Prop), im_Cx p s m meth c TB D cl tys B b T y.2 y.1.cls y.1.name → R.frames = d + 1 → R.locals = 48 * d + 48 → ∀ pc x, im_f q.1 pc = some x → im_isinv x.1 = true → im_Site p l e R s m args below meth c Q D cl tys B b call x pc)
    {vs : List Value} {h : im_H} {r : Option Value} {h' : im_H} (hsl : (im_sl vs).length ≤ q.2.1) (hs : im_run T call q.2.2 q.1 n 0 (im_ent vs q.2.1) [] h = some (r, h')) : im_Mt l TB D cl tys B b y q d vs h r h' := by
  refine Met.ofW (cc := y.2) (maxL := q.2.1) (ret := q.2.2) hpl rfl ?_
  intro p e s m args below meth c s₁ Bd hml hv
  obtain ⟨rfl, hK, hW⟩ := hv
  have hexec := Bd.exec
  have hb := Bd.bytes
  have hr := Bd.returns
  have hown : s.vm.findClass y.1.cls = some m.cls := findClass_of_methodNamed Bd.named
  have hlocks := Bd.notSynchronized
  have hin : meth.name = y.1.name := (name_of_methodNamed Bd.named Bd.method).1
  have hB : B ≤ s.heap.size := by rw [hW.1]; exact Nat.le_add_right _ _
  have hCx : im_Cx p s m meth c TB D cl tys B b T y.2 y.1.cls y.1.name := ⟨hexec, hb, hown, hin, hK, hcl, hki, hB, fun z hz => by rw [hT] at hz; cases hz⟩
  rw [lg_entry_eq]
  have hcc : ∀ (L : im_L), L.length = q.2.1 → L.length = c.maxLocals := fun L hL => hL.trans hml.symm
  have key := im_sRun (e := e) (R := (headSpec [Jvm.Cond.code y.1 y.2 q.2.1 q.2.2] (im_rm d (h'.length - h.length) (im_sz h' - im_sz h))).room) (args := (vs.map (im_rv B b)).toArray) (below := below) (Q := MQ below (im_Qc D cl tys B b r h') (vs.map (im_rv B b)).toArray s (h'.length - h.length) (im_sz h' - im_sz h) (fun q => B ≤ q)) (l := l)
    hup hCx hcd (hsite p e _ s m _ below meth c _ hCx rfl rfl) (n0 := h.length) (s0 := im_sz h) (r := r) (h' := h') (ret := q.2.2) (Nat.le_refl _) (Nat.le_refl _) ?_ n 0 (im_ent vs q.2.1) [] h hs _ s.heap [] (im_entry hsl) (hcc _ (im_ent_len hsl)) hW va_S.rf (Nat.le_refl _) (Nat.le_refl _)
  · rw [Nat.sub_self, Nat.sub_self] at key
    exact key
  · intro pc ls H locs hW' hS hE
    have hq : ∀ t : State, t.heap = H → s.WarmedH t.vm → im_Qc D cl tys B b r h' (vs.map (im_rv B b)).toArray s (.returned (r.map (im_rv B b))) t := fun t ht _ => ⟨rfl, by rw [ht]; exact hW', hS.F ht⟩
    rcases hE with ⟨v, ty, rfl, hret, hf, hdg⟩ | ⟨v, rfl, hf, hrt, hdg⟩ | ⟨rfl, hret, hdg⟩
    · exact W.zret hexec hb (hr.trans hret) (im_fit_n (B := B) (b := b) hf).1 hq (fun z hz => hS.2.2 z hz) hdg hlocks
    · have hrt2 : ∃ rt, q.2.2 = some rt ∧ ((∃ n, rt = .object n) ∨ ∃ t, rt = .array t) := by
        unfold im_isrt at hrt
        split at hrt
        · rename_i hz; exact ⟨_, hz, Or.inl ⟨_, rfl⟩⟩
        · rename_i hz; exact ⟨_, hz, Or.inr ⟨_, rfl⟩⟩
        · cases hrt
      obtain ⟨rt, hrt3, hrt4⟩ := hrt2
      have hv : im_rv B b v = .null ∨ ∃ a, im_rv B b v = .ref a := by
        unfold im_isref at hf
        split at hf
        · exact Or.inr ⟨_, rfl⟩
        · exact Or.inl rfl
        · cases hf
      exact W.aret hexec hb (hr.trans hrt3) hrt4 hv hq (fun z hz => hS.2.2 z hz) hdg hlocks
    · exact W.vret hexec hb (hr.trans hret) hq (fun z hz => hS.2.2 z hz) hdg hlocks
theorem im_call {mc ms : Nat} {r : Option Value} {h' : im_H} {a : Array Value} {st0 rest : List Value} (hr : va_Run p l e R s m args below meth c H locs cells slots mc ms (F0 m pc ls st0) rest (im_Qc D cl tys B b r h' a) (fun q => B ≤ q)) (hS : va_S (fun q => B ≤ q) s.heap H locs)
    (kk : ∀ (H1 : Heap) (locs1 : List Loc), im_W D cl tys B b h' H1 → va_S (fun q => B ≤ q) s.heap H1 locs1 → W p l e R s m args below meth c H1 locs1 (cells + mc) (slots + ms) Q (F0 m (pc + 3) ls (r.toList.map (im_rv B b) ++ rest))) : W p l e R s m args below meth c H locs cells slots Q (F0 m pc ls st0) := by
  intro T0 hT X
  obtain ⟨v, st₀, t, T', L, h0, X', hL, e1, e2, ⟨hv, hw, hz, hk⟩, st⟩ := hr T0 hT X
  cases hv
  rw [h0] at hz hk
  have hrl : (r.map (im_rv B b)).toList = r.toList.map (im_rv B b) := by cases r <;> rfl
  rw [hrl] at st
  obtain ⟨t2, a1, b1⟩ := kk T'.heap (locs ++ L) (by rw [e1]; exact hw)
    ⟨Nat.le_trans hS.1 (by rw [e1]; exact hz), fun q h1 h2 => by rw [e1, hk q (Nat.lt_of_lt_of_le h1 hS.1) h2]; exact hS.2.1 q h1 h2, fun q hq => by
      rcases List.mem_append.mp hq with h | h
      · exact hS.2.2 q h
      · exact hL q h⟩ T' rfl X'
  exact ⟨t2, st t2 a1, b1⟩
/-- what the tables say of a call's method -/
def im_cw (TB : List Jvm.Cond) (y : MethodName × ByteArray) (q : im_M) (np : Nat) : Prop := Jvm.Cond.code y.1 y.2 q.2.1 q.2.2 ∈ TB ∧ Jvm.Cond.initialized y.1.cls ∈ TB ∧ (y.1.cls ≠ "java/lang/invoke/MethodHandle" ∧ y.1.cls ≠ "java/lang/invoke/VarHandle") ∧ (parseMethodDescriptor y.1.desc).map (fun d => d.parameters.length) = some np ∧ q.2.1 ≤ 29
def im_lkM (TB : List Jvm.Cond) (own : String) (idx : Nat) (y : MethodName) : Prop := Jvm.Cond.methodLink own idx y ∈ TB ∨ ∃ host : String, Jvm.Cond.methodLinkNest own idx y host ∈ TB
def im_inok (TB : List Jvm.Cond) (cl : List vw_C) (own : String) (x : im_X) (y : MethodName × ByteArray) (q : im_M) : Prop := match x.1 with
  | .invokevirtual idx => ∃ np, im_cw TB y q np ∧ x.2.2 = np + 1 ∧ im_lkM TB own idx y.1 ∧ Jvm.Cond.instanceMethod y.1 ∈ TB ∧ Jvm.Cond.selects y.1.cls y.1 y.1 ∈ TB ∧ ∃ r : vw_C, cl[x.2.1 / 64]? = some r ∧ r.1 = y.1.cls
  | .invokespecial idx => ∃ np, im_cw TB y q np ∧ x.2.2 = np + 1 ∧ im_lkM TB own idx y.1 ∧ Jvm.Cond.instanceMethod y.1 ∈ TB ∧ y.1.name = "<init>" ∧ q.2.2 = none
  | .invokestatic idx => ∃ np, im_cw TB y q np ∧ x.2.2 = np ∧ im_lkM TB own idx y.1 ∧ Jvm.Cond.static y.1 ∈ TB
  | _ => False
theorem im_blind {TB : List Jvm.Cond} (hg : ∀ w ∈ TB, im_gw w = true) (av : List Value) (h : im_H) : FrameBlind (va_Pc av (fun U => im_K TB D cl tys U ∧ im_W D cl tys B b h U.heap)) := by
  intro a U g mk hq
  obtain ⟨h1, h2, h3⟩ := hq
  exact ⟨h1, im_K.same (u := U) (U := U.calling g mk a) hg rfl h2, h3⟩
theorem im_site {call : im_F} (hg : ∀ w ∈ TB, im_gw w = true) (hx0 : im_Cx p s m meth c TB D cl tys B b T cc own mn) {x : im_X} {y : MethodName × ByteArray} {q : im_M} {d : Nat} (hR1 : d + 1 + 1 ≤ R.frames) (hR2 : 48 * (d + 1) + 48 ≤ R.locals) (hd : im_dk cc pc x) (hi : im_inok TB cl own x y q)
    (hM : ∀ vs h r h', call x.2.1 vs h = some (r, h') → im_Mt l TB D cl tys B b y q d vs h r h') : im_Site p l e R s m args below meth c Q D cl tys B b call x pc := by
  obtain ⟨hexec, hb, hown, hmn, hK, -, -, -, -⟩ := hx0
  have hts : ∀ w ∈ TB, w.before args s = true := fun w hw => hK.1 w hw args
  have hcb : ∀ {np mc ms : Nat}, im_cw TB y q np → ((im_rm d mc ms).cells = mc ∧ (im_rm d mc ms).slots = ms ∧ (im_rm d mc ms).frames + 1 ≤ R.frames ∧ 8 + (q.2.1 + 11) + (im_rm d mc ms).locals ≤ R.locals ∧ (∀ w ∈ [Jvm.Cond.code y.1 y.2 q.2.1 q.2.2], ∀ (a' : Array Value) (U : State), s.WarmedH U.vm → w.before a' U = true) ∧ Jvm.Cond.code y.1 y.2 q.2.1 q.2.2 ∈ [Jvm.Cond.code y.1 y.2 q.2.1 q.2.2]) := by
    intro np mc ms hc
    refine ⟨rfl, rfl, hR1, ?_, ?_, List.mem_cons_self⟩
    · have := hc.2.2.2.2
      show 8 + (q.2.1 + 11) + (48 * d + 48) ≤ R.locals
      omega
    · intro w hw a' U hWm
      rw [List.mem_singleton.mp hw]
      exact (hK.warm hg hWm).1 _ hc.1 a'
  have hsg : ∀ {np : Nat}, im_cw TB y q np → ∀ sig, parseMethodDescriptor y.1.desc = some sig → np = sig.parameters.length := by
    intro np hc sig hs
    have h2 := hc.2.2.2.1
    rw [hs] at h2
    exact (Option.some.inj h2).symm
  intro vs rest h r h' H locs cells slots ls hcall hlen hrc hrest hW hS hls hc1 hc2 kk
  have hPs : ∀ (U : State), U.heap = H → s.WarmedH U.vm → va_Pc (vs.map (im_rv B b)) (fun U => im_K TB D cl tys U ∧ im_W D cl tys B b h U.heap) (vs.map (im_rv B b)).toArray U := fun U hU hWm => ⟨rfl, hK.warm hg hWm, by rw [hU]; exact hW⟩
  have hcb' := fun {np : Nat} (hc : im_cw TB y q np) => hcb (mc := h'.length - h.length) (ms := im_sz h' - im_sz h) hc
  obtain ⟨i, a1, a2⟩ := x
  cases i with
  | invokevirtual idx =>
    obtain ⟨np, hcw, hn, hlk, hinst, hsel, rr, hcr, hcr2⟩ := hi
    have hn : a2 = np + 1 := hn
    obtain ⟨o, fs, us, rfl, ho⟩ := hrc (by show 0 < a2; omega)
    have hus : us.length = np := by
      have : (Value.ref o :: us).length = a2 := hlen
      rw [List.length_cons] at this
      omega
    have hrcv : ∃ cellB : Cell, H[B + o]? = some cellB ∧ cellB.vm.isStatics = false ∧ s.vm.findClass y.1.cls = some cellB.cls := by
      obtain ⟨cell, g1, g2, g3⟩ := va_recv hK.2 (im_P1 (hW.2 o _ ho (im_lvo hcr))) hcr (q0 := 0) rfl
      exact ⟨cell, g1, g2, by rw [← hcr2]; exact g3⟩
    have hst : ((Value.ref o :: us).map (im_rv B b)).reverse ++ rest = (us.map (im_rv B b)).reverse ++ .ref (B + o) :: rest := by
      rw [List.map_cons, List.reverse_cons, List.append_assoc]; rfl
    rw [hst]
    rcases hlk with hl | ⟨host, hl⟩
    · exact im_call (va_runV (As := us.map (im_rv B b)) (b := B + o) ⟨hexec, hb, rfl, hown, hts⟩ (hM _ _ _ _ hcall) ⟨⟨(hcb' hcw).1, (hcb' hcw).2.1, (hcb' hcw).2.2.1, (hcb' hcw).2.2.2.1, (hcb' hcw).2.2.2.2.1, (hcb' hcw).2.2.2.2.2, hts _ hcw.1, hts _ hcw.2.1, hcw.2.2.1, hsg hcw, hts _ hl⟩, hts _ hinst, hts _ hsel⟩ ⟨im_blind hg _ _, hrcv, hPs⟩ rfl (by rw [List.length_map]; exact hus) hls rfl (by show 2 * 0 + _ ≤ 8; omega) hd ⟨hc1, hc2⟩) hS kk
    · exact im_call (va_runVN (As := us.map (im_rv B b)) (b := B + o) (host := host) (C := y.1.cls) ⟨hexec, hb, rfl, hown, hts⟩ (hM _ _ _ _ hcall) ⟨⟨hcb' hcw, hts _ hcw.1, hts _ hcw.2.1, hcw.2.2.1, hsg hcw, hts _ hl⟩, hts _ hinst, hts _ hsel⟩ ⟨im_blind hg _ _, hrcv, hPs⟩ rfl (by rw [List.length_map]; exact hus) hls rfl (by show 2 * 0 + _ ≤ 8; omega) hd ⟨hc1, hc2⟩) hS kk
  | invokespecial idx =>
    obtain ⟨np, hcw, hn, hlk, hinst, hname, hret⟩ := hi
    have hn : a2 = np + 1 := hn
    obtain ⟨o, us, rfl⟩ := hrc (by show 0 < a2; omega)
    have hus : us.length = np := by
      have : (Value.ref o :: us).length = a2 := hlen
      rw [List.length_cons] at this
      omega
    have hst : ((Value.ref o :: us).map (im_rv B b)).reverse ++ rest = (us.map (im_rv B b)).reverse ++ .ref (B + o) :: rest := by
      rw [List.map_cons, List.reverse_cons, List.append_assoc]; rfl
    rw [hst]
    have hM1 := hM _ _ _ _ hcall
    unfold im_Mt at hM1
    have hcw1 := hcb (mc := h'.length - h.length) (ms := im_sz h' - im_sz h) hcw
    have hcw2 := hts _ hcw.1
    rw [hret] at hM1 hcw1 hcw2
    rcases hlk with hl | ⟨host, hl⟩
    · exact im_call (va_runI (As := us.map (im_rv B b)) (b := B + o) ⟨hexec, hb, rfl, hown, hts⟩ hM1 ⟨⟨hcw1.1, hcw1.2.1, hcw1.2.2.1, hcw1.2.2.2.1, hcw1.2.2.2.2.1, hcw1.2.2.2.2.2, hcw2, hts _ hcw.2.1, hcw.2.2.1, hsg hcw, hts _ hl⟩, hname, hts _ hinst⟩ ⟨im_blind hg _ _, hPs⟩ rfl (by rw [List.length_map]; exact hus) hls rfl (by show 2 * 0 + _ ≤ 8; omega) hd ⟨hc1, hc2⟩) hS kk
    · exact im_call (va_runIN (As := us.map (im_rv B b)) (b := B + o) (host := host) ⟨hexec, hb, rfl, hown, hts⟩ hM1 ⟨⟨hcw1, hcw2, hts _ hcw.2.1, hcw.2.2.1, hsg hcw, hts _ hl⟩, hname, hts _ hinst⟩ ⟨im_blind hg _ _, hPs⟩ rfl (by rw [List.length_map]; exact hus) hls rfl (by show 2 * 0 + _ ≤ 8; omega) hd ⟨hc1, hc2⟩) hS kk
  | invokestatic idx =>
    obtain ⟨np, hcw, hn, hlk, hstat⟩ := hi
    have hn : a2 = np := hn
    have hvs : vs.length = np := by
      have : vs.length = a2 := hlen
      omega
    rcases hlk with hl | ⟨host, hl⟩
    · exact im_call (va_runS (As := vs.map (im_rv B b)) ⟨hexec, hb, rfl, hown, hts⟩ (hM _ _ _ _ hcall) ⟨⟨(hcb' hcw).1, (hcb' hcw).2.1, (hcb' hcw).2.2.1, (hcb' hcw).2.2.2.1, (hcb' hcw).2.2.2.2.1, (hcb' hcw).2.2.2.2.2, hts _ hcw.1, hts _ hcw.2.1, hcw.2.2.1, hsg hcw, hts _ hl⟩, hts _ hstat⟩ ⟨im_blind hg _ _, hPs⟩ rfl (by rw [List.length_map]; exact hvs) hls rfl (by show 2 * 0 + _ ≤ 8; omega) hd ⟨hc1, hc2⟩) hS kk
    · exact im_call (va_runSN (As := vs.map (im_rv B b)) (host := host) ⟨hexec, hb, rfl, hown, hts⟩ (hM _ _ _ _ hcall) ⟨⟨hcb' hcw, hts _ hcw.1, hts _ hcw.2.1, hcw.2.2.1, hsg hcw, hts _ hl⟩, hts _ hstat, trivial⟩ ⟨im_blind hg _ _, hPs⟩ rfl (by rw [List.length_map]; exact hvs) hls rfl (by show 2 * 0 + _ ≤ 8; omega) hd ⟨hc1, hc2⟩) hS kk
  | _ => cases hi
end IMV
