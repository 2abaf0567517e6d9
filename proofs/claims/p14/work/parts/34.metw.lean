/-! the law's call of its octet -/
section XSI
variable {p : Program} {l : Launch} {e : Env} {R : Room} {s : State} {m : MethodId} {args : Array Value} {below : List Frame} {meth : Method} {c : Code} {Q : State → Prop}
variable {D : va_G} {cl : List vw_C} {tys : List (ClassId × FieldType)} {B b : Nat} {TB : List Jvm.Cond} {T : im_T}
/-- a method with a table of its own, that returns -/
theorem im_sMetW {call : im_F} {y : MethodName × ByteArray} {q : im_M} {hh : List (Nat × Nat × Nat × Nat)} (hup : im_Cup call) (hpl : plainName y.1.cls = true) (hcl : im_cls TB T.1 cl) (hki : im_kinds cl tys) (hT : T.2 = none)
    (hcd : ∀ pc x, im_f q.1 pc = some x → im_dk y.2 pc x ∧ im_ok TB cl y.1.cls y.1.name x) {d n : Nat}
    (hsite : ∀ (p : Program) (e : Env) (R : Room) (s : State) (m : MethodId) (args : Array Value) (below : List Frame) (meth : Method) (c : Code) (Q : State → Prop), im_Cx p s m meth c TB D cl tys B b T y.2 y.1.cls y.1.name → R.frames = d + 1 → R.locals = 48 * d + 48 → ∀ pc x, im_f q.1 pc = some x → im_isinv x.1 = true → im_Site p l e R s m args below meth c Q D cl tys B b call x pc)
    {vs : List Value} {h : im_H} {r : Option Value} {h' : im_H} (hsl : (im_sl vs).length ≤ q.2.1) (hs : im_run T call q.2.2 q.1 n 0 (im_ent vs q.2.1) [] h = some (r, h')) :
    Met l y.1 [Jvm.Cond.codeWith y.1 y.2 q.2.1 q.2.2 hh] (im_rm d (h'.length - h.length) (im_sz h' - im_sz h)) (va_Pc (vs.map (im_rv B b)) (fun U => im_K TB D cl tys U ∧ im_W D cl tys B b h U.heap)) (im_Qc D cl tys B b r h') (h'.length - h.length) (im_sz h' - im_sz h) (fun q => B ≤ q) := by
  refine va_MetW (hh := hh) (cc := y.2) (maxL := q.2.1) (ret := q.2.2) hpl rfl ?_
  intro p e s m args below meth c s₁ Bd hml hv
  obtain ⟨rfl, hK, hW⟩ := hv
  have hexec := Bd.exec
  have hb := Bd.bytes
  have hr := Bd.returns
  have hown : s.vm.findClass y.1.cls = some m.cls := findClass_of_methodNamed Bd.named
  have hlocks := Bd.notSynchronized
  have hin : meth.name = y.1.name := (name_of_methodNamed Bd.named Bd.method).1
  have hB : B ≤ s.heap.size := by rw [hW.1]; exact Nat.le_add_right _ _
  have hCx : im_Cx p s m meth c TB D cl tys B b T y.2 y.1.cls y.1.name := ⟨hexec, hb, hown, hin, hK, hcl, hki, hB, fun z hz => by rw [hT] at hz; cases hz⟩
  rw [lg_entry_eq]
  have hcc : ∀ (L : im_L), L.length = q.2.1 → L.length = c.maxLocals := fun L hL => hL.trans hml.symm
  have key := im_sRun (e := e) (R := (headSpec [Jvm.Cond.codeWith y.1 y.2 q.2.1 q.2.2 hh] (im_rm d (h'.length - h.length) (im_sz h' - im_sz h))).room) (args := (vs.map (im_rv B b)).toArray) (below := below) (Q := MQ below (im_Qc D cl tys B b r h') (vs.map (im_rv B b)).toArray s (h'.length - h.length) (im_sz h' - im_sz h) (fun q => B ≤ q)) (l := l)
    hup hCx hcd (hsite p e _ s m _ below meth c _ hCx rfl rfl) (n0 := h.length) (s0 := im_sz h) (r := r) (h' := h') (ret := q.2.2) (Nat.le_refl _) (Nat.le_refl _) ?_ n 0 (im_ent vs q.2.1) [] h hs _ s.heap [] (im_entry hsl) (hcc _ (im_ent_len hsl)) hW va_S.rf (Nat.le_refl _) (Nat.le_refl _)
  · rw [Nat.sub_self, Nat.sub_self] at key
    exact key
  · intro pc ls H locs hW' hS hE
    have hq : ∀ t : State, t.heap = H → s.WarmedH t.vm → im_Qc D cl tys B b r h' (vs.map (im_rv B b)).toArray s (.returned (r.map (im_rv B b))) t := fun t ht _ => ⟨rfl, by rw [ht]; exact hW', hS.F ht⟩
    rcases hE with ⟨v, ty, rfl, hret, hf, hdg⟩ | ⟨v, rfl, hf, hrt, hdg⟩ | ⟨rfl, hret, hdg⟩
    · exact W.zret hexec hb (hr.trans hret) (im_fit_n (B := B) (b := b) hf).1 hq (fun z hz => hS.2.2 z hz) hdg hlocks
    · have hrt2 : ∃ rt, q.2.2 = some rt ∧ ((∃ n, rt = .object n) ∨ ∃ t, rt = .array t) := by
        unfold im_isrt at hrt
        split at hrt
        · rename_i hz; exact ⟨_, hz, Or.inl ⟨_, rfl⟩⟩
        · rename_i hz; exact ⟨_, hz, Or.inr ⟨_, rfl⟩⟩
        · cases hrt
      obtain ⟨rt, hrt3, hrt4⟩ := hrt2
      have hv : im_rv B b v = .null ∨ ∃ a, im_rv B b v = .ref a := by
        unfold im_isref at hf
        split at hf
        · exact Or.inr ⟨_, rfl⟩
        · exact Or.inl rfl
        · cases hf
      exact W.aret hexec hb (hr.trans hrt3) hrt4 hv hq (fun z hz => hS.2.2 z hz) hdg hlocks
    · exact W.vret hexec hb (hr.trans hret) hq (fun z hz => hS.2.2 z hz) hdg hlocks
end XSI
/-- how many bytes were edited -/
def oc8 (h : im_H) : Option Int32 := match (h[0]? : Option im_C) with
  | some (.inr (7, fs)) => (match (fs[8]? : Option Value) with
    | some (.ref 8) => (match (h[8]? : Option im_C) with
      | some (.inr (1, gs)) => (match (gs[1]? : Option Value) with
        | some (.int len) => some len
        | _ => none)
      | _ => none)
    | _ => none)
  | _ => none
theorem oc8_some {h : im_H} {len : Int32} (hs : oc8 h = some len) : ∃ fs gs : List Value, h[0]? = some (.inr (7, fs)) ∧ fs[8]? = some (.ref 8) ∧ h[8]? = some (.inr (1, gs)) ∧ gs[1]? = some (.int len) := by
  unfold oc8 at hs
  split at hs
  · rename_i fs h0
    split at hs
    · rename_i h1
      split at hs
      · rename_i gs h2
        split at hs
        · rename_i l h3
          cases hs
          exact ⟨fs, gs, h0, h1, h2, h3⟩
        · cases hs
      · cases hs
    · cases hs
  · cases hs
def ocF (n : Nat) (vs : List Value) (h : im_H) : Option (Option Value × im_H) := match vs with
  | [.ref 0, .int i, .ref 24] => (oc8 h).bind fun len => if 0 ≤ i ∧ i < len then im_run (tb_F, none) (im_exec (tb_F, none) (im_tM tb_mt) im_nat 8 n) (some .int) cd_oct n 0 [some (.ref 0), some (.int i), some (.ref 24), none] [] h else some (some (.int 1), h ++ [xCell])
  | _ => none
section XSJ
variable {p : Program} {l : Launch} {e : Env} {R : Room} {s : State} {m : MethodId} {args : Array Value} {below : List Frame} {meth : Method} {c : Code} {Q : State → Prop}
variable {D : va_G} {tys : List (ClassId × FieldType)} {B b : Nat} {T : im_T} {cc : ByteArray} {mn : String}
theorem oct_site (hl : l.stackTraces = false) (hsys : im_Sys TBl tb_cl (im_tI tb_mt) (im_tM tb_mt)) (hH : im_Has TBl tb_cl (im_tI tb_mt) (im_tM tb_mt) me_456) (hHo : im_Has TBl tb_cl (im_tI tb_mt) (im_tM tb_mt) me_oct) (hx0 : im_Cx p s m meth c TBl D tb_cl tys B b T cc "MapTextLaw" mn) (hTF : T.1 = tb_F) (hX : xK s) (hZ : xZ B s) (hR1 : 11 ≤ R.frames) (hR2 : 455 ≤ R.locals)
    {call : im_F} {n pc : Nat} (hcall : ∀ vs h, call 1924 vs h = ocF n vs h) (hd : decode cc pc = .ok (.invokestatic ix_o, 3)) : im_Site p l e R s m args below meth c Q D tb_cl tys B b call (.invokestatic ix_o, 1924, 3) pc := by
  obtain ⟨hexec, hb, hown, hmn, hK, hcl, hki, hB, -⟩ := hx0
  rw [hTF] at hcl
  have hts : ∀ z ∈ TBl, z.before args s = true := fun z hz => hK.1 z hz _
  have how : ∀ {j : Nat} {w' : Jvm.Cond}, oWs[j]? = some w' → w'.before args s = true := fun hj => hts _ (oW_in _ (List.mem_of_getElem? hj))
  intro vs rest h r h' H locs cells slots ls hc hlen hrc hrest hW hS hls hc1 hc2 kk
  replace hc : ocF n vs h = some (r, h') := (hcall vs h).symm.trans hc
  have hws : ∀ w ∈ [Jvm.Cond.codeWith yL me_oct.1.2 4 (some .int) hh_o], ∀ (a' : Array Value) (U : State), s.WarmedH U.vm → w.before a' U = true := fun w hw a' U hWm => by
    rw [List.mem_singleton.mp hw]
    exact (hK.warm TBl_gw hWm).1 _ (oW_in _ (List.mem_of_getElem? (i := 8) rfl)) a'
  unfold ocF at hc
  split at hc
  · rename_i i
    obtain ⟨len, h8, hc⟩ := Option.bind_eq_some_iff.mp hc
    split at hc
    · have hM : Met l yL [Jvm.Cond.codeWith yL me_oct.1.2 4 (some .int) hh_o] (im_rm 8 (h'.length - h.length) (im_sz h' - im_sz h)) (va_Pc ([Value.ref 0, .int i, .ref 24].map (im_rv B b)) (fun U => im_K TBl D tb_cl tys U ∧ im_W D tb_cl tys B b h U.heap)) (im_Qc D tb_cl tys B b r h') (h'.length - h.length) (im_sz h' - im_sz h) (fun q => B ≤ q) := by
        refine im_sMetW (T := (tb_F, none)) (call := im_exec (tb_F, none) (im_tM tb_mt) im_nat 8 n) (y := me_oct.1) (q := me_oct.2) (hh := hh_o) (d := 8) (n := n) (im_exec_up im_nat_up 8 n) hHo.1 hcl hki rfl (fun pc x hx => ⟨(hHo.2 pc x hx).1, (hHo.2 pc x hx).2.1⟩) (fun p e R s m args below meth c Q hCx hR1 hR2 pc x hx hinv => ?_) (vs := [Value.ref 0, .int i, .ref 24]) (Nat.le_of_ble_eq_true rfl) hc
        obtain ⟨hdk, -, hin⟩ := hHo.2 pc x hx
        rcases hin hinv with ⟨q', hq', hio⟩ | ⟨hnn, hno⟩
        · exact im_site TBl_gw hCx (d := 7) (by omega) (by omega) hdk hio (fun vs h r h' hc => im_sExec TBl_gw hcl hki rfl hsys n 7 x.2.1 q' hq' vs h r h' hc)
        · refine im_natSite hCx (by omega) (by omega) hdk hno (fun vs h => ?_)
          rw [im_exec, hnn]
      exact im_call (vx_runSW (As := [Value.ref 0, .int i, .ref 24].map (im_rv B b)) (hh := hh_o) (n := 3) ⟨hexec, hb, rfl, hown, hts⟩ hM ⟨⟨rfl, rfl, by show 9 + 1 ≤ _; omega, by show 8 + (4 + 11) + (48 * 8 + 48) ≤ _; omega, hws, List.mem_cons_self⟩, how (j := 8) rfl, how (j := 9) rfl, by decide, fun sig hsig => by cases hsig; rfl, how (j := 6) rfl, how (j := 7) rfl⟩ ⟨im_blind TBl_gw _ _, fun U hU hWm => ⟨rfl, hK.warm TBl_gw hWm, by rw [hU]; exact hW⟩⟩ rfl rfl hls rfl (by show 2 * 0 + _ ≤ 8; omega) hd ⟨hc1, hc2⟩) hS kk
    · rename_i hnin
      cases hc
      obtain ⟨fs, gs, g0, g1, g2, g3⟩ := oc8_some h8
      have e1 : (h ++ [xCell]).length - h.length = 1 := by rw [List.length_append]; show h.length + 1 - h.length = 1; omega
      have e2 : im_sz (h ++ [xCell]) - im_sz h = 6 := by rw [im_sz_push]; show im_sz h + 6 - im_sz h = 6; omega
      rw [e1] at hc1
      rw [e2] at hc2
      rw [e1, e2] at kk
      exact im_call (vx_runSW (As := [Value.ref (B + 0), .int i, .ref (B + 24)]) (hh := hh_o) (n := 3) ⟨hexec, hb, rfl, hown, hts⟩ (x_oct hl hH hHo hcl hki g0 g1 g2 g3 hnin) ⟨⟨rfl, rfl, by show 10 + 1 ≤ _; omega, by show 8 + (4 + 11) + 240 ≤ _; omega, hws, List.mem_cons_self⟩, how (j := 8) rfl, how (j := 9) rfl, by decide, fun sig hsig => by cases hsig; rfl, how (j := 6) rfl, how (j := 7) rfl⟩ ⟨xP.blind TBl_gw _ _, fun U hU hWm => ⟨rfl, hK.warm TBl_gw hWm, by rw [hU]; exact hW, hX.warm hWm, by
        rw [show U.heap = H from hU]
        exact vx_Zq.moved hWm.alike (hZ.1.kept hS.2.1), by
        rw [show U.heap = H from hU]
        exact vx_Zq.moved hWm.alike (hZ.2.kept hS.2.1)⟩⟩ rfl rfl hls rfl (by show 2 * 0 + _ ≤ 8; omega) hd ⟨hc1, hc2⟩) hS kk
  · cases hc
end XSJ
