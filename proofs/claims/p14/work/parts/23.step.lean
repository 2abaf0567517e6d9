section IMT
variable {p : Program} {l : Launch} {e : Env} {R : Room} {s : State} {m : MethodId} {args : Array Value} {below : List Frame} {meth : Method} {c : Code} {Q : State → Prop} {H : Heap} {locs : List Loc} {cells slots : Nat}
variable {D : va_G} {cl : List vw_C} {tys : List (ClassId × FieldType)} {B b : Nat} {cc : ByteArray} {own : String} {TB : List Jvm.Cond} {F : Nat → List FieldType} {pc : Nat} {ls : Array Slot} {rest : List Value} {h : im_H}
theorem im_P1 {q : Nat × va_E} (hq : va_at D cl q H) : va_P D cl [q] H := by
  intro k z hz
  cases k with
  | zero => cases hz; exact hq
  | succ j => cases hz
theorem im_jmp_some {off : Int} {L : im_L} {st : List Value} {q : im_R} (hs : im_jmp pc off L st h = some q) : (pc : Int) + off = ((((pc : Int) + off).toNat : Nat) : Int) ∧ q = .inl (((pc : Int) + off).toNat, L, st, h) := by
  unfold im_jmp at hs
  split at hs
  · rename_i h1
    exact ⟨(Int.toNat_of_nonneg h1).symm, im_go_some hs⟩
  · cases hs
theorem im_load_some {L : im_L} {i k : Nat} {st : List Value} {q : im_R} (hs : im_load L i pc st h k = some q) : ∃ v : Value, L[i]? = some (some v) ∧ q = .inl (pc, L, v :: st, h) ∧ ((k = 0 ∧ ∃ x, v = .int x) ∨ (k = 1 ∧ ∃ x, v = .long x) ∨ (k = 2 ∧ ((∃ x, v = .ref x) ∨ v = .null ∨ ∃ x, v = .retAddr x))) := by
  unfold im_load at hs
  split at hs
  · rename_i hx; exact ⟨_, hx, im_go_some hs, Or.inl ⟨rfl, _, rfl⟩⟩
  · rename_i hx; exact ⟨_, hx, im_go_some hs, Or.inr (Or.inl ⟨rfl, _, rfl⟩)⟩
  · rename_i hx; exact ⟨_, hx, im_go_some hs, Or.inr (Or.inr ⟨rfl, Or.inl ⟨_, rfl⟩⟩)⟩
  · rename_i hx; exact ⟨_, hx, im_go_some hs, Or.inr (Or.inr ⟨rfl, Or.inr (Or.inl rfl)⟩)⟩
  · rename_i hx; exact ⟨_, hx, im_go_some hs, Or.inr (Or.inr ⟨rfl, Or.inr (Or.inr ⟨_, rfl⟩)⟩)⟩
  · cases hs
theorem im_store_some {L : im_L} {i k : Nat} {st : List Value} {q : im_R} (hs : im_store L i pc st h k = some q) : ∃ (v : Value) (r : List Value) (L' : im_L), st = v :: r ∧ q = .inl (pc, L', r, h) ∧ ((k = 0 ∧ (∃ x, v = .int x) ∧ im_s1 L i v = some L') ∨ (k = 1 ∧ (∃ x, v = .long x) ∧ im_s2 L i v = some L') ∨ (k = 2 ∧ ((∃ x, v = .ref x) ∨ v = .null) ∧ im_s1 L i v = some L')) := by
  unfold im_store at hs
  split at hs
  · obtain ⟨L', h1, h2⟩ := Option.bind_eq_some_iff.mp hs
    exact ⟨_, _, L', rfl, im_go_some h2, Or.inl ⟨rfl, ⟨_, rfl⟩, h1⟩⟩
  · obtain ⟨L', h1, h2⟩ := Option.bind_eq_some_iff.mp hs
    exact ⟨_, _, L', rfl, im_go_some h2, Or.inr (Or.inl ⟨rfl, ⟨_, rfl⟩, h1⟩)⟩
  · obtain ⟨L', h1, h2⟩ := Option.bind_eq_some_iff.mp hs
    exact ⟨_, _, L', rfl, im_go_some h2, Or.inr (Or.inr ⟨rfl, Or.inl ⟨_, rfl⟩, h1⟩)⟩
  · obtain ⟨L', h1, h2⟩ := Option.bind_eq_some_iff.mp hs
    exact ⟨_, _, L', rfl, im_go_some h2, Or.inr (Or.inr ⟨rfl, Or.inr rfl, h1⟩)⟩
  · cases hs
theorem im_s1_len {L L' : im_L} {i : Nat} {v : Value} (hs : im_s1 L i v = some L') : L'.length = L.length := by
  rw [(im_s1_some hs).2.2, List.length_set]
theorem im_s2_len {L L' : im_L} {i : Nat} {v : Value} (hs : im_s2 L i v = some L') : L'.length = L.length := by
  rw [(im_s2_some hs).2.2, List.length_set, List.length_set]
/-- a field is read -/
theorem im_rget (hexec : p.tables.exec = Jvm.exec) (hb : c.code = cc) (hown : s.vm.findClass own = some m.cls) (hK : im_K TB D cl tys s) (hcl : im_cls TB F cl) {ci k idx o : Nat} {C : String} {Tt : u_T} {N : Nat} (hc : cl[ci]? = some (C, Tt, N)) (hk : k < N) (hlk : im_lk TB own idx (Tt k)) {fs : List Value} (hW : im_W D cl tys B b h H) (ho : h[o]? = some (.inr (ci, fs))) {v : Value} (hv : fs[k]? = some v) (hdg : decode cc pc = .ok (.getfield idx, 3))
    (kk : W p l e R s m args below meth c H locs cells slots Q (F0 m (pc + 3) ls (im_rv B b v :: rest))) : W p l e R s m args below meth c H locs cells slots Q (F0 m pc ls (.ref (B + o) :: rest)) := by
  have hts : ∀ w ∈ TB, w.before args s = true := fun w hw => hK.1 w hw args
  have hin := (hcl ci C Tt N hc).1
  have hP := im_P1 (hW.2 o _ ho (im_lvo hc))
  have hv' : (fs.map (im_rv B b))[k]? = some (im_rv B b v) := by rw [List.getElem?_map, hv]; rfl
  rcases hlk with hl | ⟨host, hl⟩
  · exact va_get (own := own) (ref := (Tt k).1) hexec hb hts hin hown hK.2 hP 0 rfl hc k hk (hts _ hl) (fun _ q => q) hv' hdg kk
  · exact va_getN (own := own) (ref := (Tt k).1) (host := host) hexec hb hts hin hown hK.2 hP 0 rfl hc k hk (hts _ hl) (fun _ q => q) hv' hdg kk
/-- a field is written -/
theorem im_rput (hexec : p.tables.exec = Jvm.exec) (hb : c.code = cc) (hown : s.vm.findClass own = some m.cls) (hK : im_K TB D cl tys s) (hcl : im_cls TB F cl) {ci k idx o : Nat} {C : String} {Tt : u_T} {N : Nat} (hc : cl[ci]? = some (C, Tt, N)) (hk : k < N)
    (hlk : ((Tt k).2.2.2 = false ∧ im_lk TB own idx (Tt k)) ∨ ((Tt k).2.2.2 = true ∧ meth.name = "<init>" ∧ (Tt k).1 = own ∧ Jvm.Cond.fieldLink own idx (Tt k).1 (Tt k).2.1 (Tt k).2.2.1 ∈ TB)) {fs : List Value} (hW : im_W D cl tys B b h H) (hS : va_S (fun q => B ≤ q) s.heap H locs) (ho : h[o]? = some (.inr (ci, fs))) {v : Value} (hl : k < fs.length) {ty : FieldType} (hty : (F ci)[k]? = some ty) (hfit : im_fit ty v = true) (hdg : decode cc pc = .ok (.putfield idx, 3))
    (kk : ∀ (H1 : Heap) (locs1 : List Loc), im_W D cl tys B b (h.set o (.inr (ci, fs.set k v))) H1 → va_S (fun q => B ≤ q) s.heap H1 locs1 → W p l e R s m args below meth c H1 locs1 cells slots Q (F0 m (pc + 3) ls rest)) : W p l e R s m args below meth c H locs cells slots Q (F0 m pc ls (im_rv B b v :: .ref (B + o) :: rest)) := by
  have hts : ∀ w ∈ TB, w.before args s = true := fun w hw => hK.1 w hw args
  obtain ⟨hin, hlen, hpf, hnm⟩ := hcl ci C Tt N hc
  have hd : parseFieldDescriptor (Tt k).2.2.1 = some ty := (hpf k hk).trans hty
  obtain ⟨hn, hf⟩ := im_fit_n (B := B) (b := b) hfit
  have hpt : ∀ j, j < N → parseFieldDescriptor (Tt j).2.2.1 = some ((F ci).getD j .int) := by
    intro j hj
    rw [hpf j hj, List.getD_eq_getElem?_getD, List.getElem?_eq_getElem (by omega)]
    rfl
  have hap := va_apart (own := own) hts hin (fun j => (F ci).getD j .int) hpt hnm hK.2 hc
  obtain ⟨r, h1, cell, q1, q2, q3, q4⟩ := hW.2 o _ ho (im_lvo hc)
  have hr : r = (C, Tt, N) := Option.some.inj (h1.symm.trans hc)
  subst hr
  obtain ⟨hSl, hfc, kC, hkC, hkind⟩ := hK.2.1 ci _ hc
  obtain ⟨cf, kf, fi, f, hi, hsl⟩ := hSl k hk
  have hst := (u_facts hfc hkC (u_lays hts hin hk) hi).1
  have hset : (fs.map (im_rv B b)).set k (im_rv B b v) = (fs.set k v).map (im_rv B b) := by rw [List.map_set]
  have fin : ∀ H' : Heap, H'[B + o]? = some (cell.setSlot f.slot (im_rv B b v)) → H'.size = H.size → (∀ q, q ≠ B + o → H'[q]? = H[q]?) → W p l e R s m args below meth c H' (locs ++ [⟨B + o, f.slot⟩]) cells slots Q (F0 m (pc + 3) ls rest) := by
    intro H' e1 e2 e3
    rw [hsl] at e1 ⊢
    refine kk H' _ (hW.set (fun _ => show va_at D cl (B + o, .inr (ci, (fs.set k v).map (im_rv B b))) H' from ?_) e2 e3) (hS.put e2 e3 (Nat.le_add_right _ _))
    rw [← hset]
    exact ⟨_, hc, t_OB.to (V := updV (vp_V (fs.map (im_rv B b))) k (im_rv B b v)) ⟨_, e1, q2, q3, t_set q4 hap hk _⟩ (fun j _ => vp_updV_set (by rw [List.length_map]; exact hl) _ j)⟩
  rcases hlk with ⟨hfin, hlk⟩ | ⟨hfin, hin2, hdecl, hlk⟩
  · have hlay := hts _ (hin _ (u_in_lay hk))
    unfold u_lay at hlay
    rw [if_neg (by rw [hfin]; decide)] at hlay
    have h6 := u_store hfc hkC hkind hlay hi hd hn hf
    rcases hlk with hl1 | ⟨host, hl1⟩
    · exact W.putK hexec hb (f := f) ⟨hown, hts _ hl1, ⟨_, _, _, hi⟩, hst⟩ (by rw [q2]; exact h6) q1 q3 (by rw [hsl]; exact k2_hasslot (q4 k hk)) rfl rfl hdg fin
    · exact va_WputK hexec hb (f := f) (host := host) hown (hts _ hl1) hi hst (by rw [q2]; exact h6) q1 q3 (by rw [hsl]; exact k2_hasslot (q4 k hk)) rfl rfl hdg fin
  · have hlay := hts _ (hin _ (u_in_lay hk))
    unfold u_lay at hlay
    rw [if_pos hfin] at hlay
    have hcf : m.cls = cf := by
      obtain ⟨_, _, c', _, _, _, -, -, hf', -, -, -, hown2, -⟩ := Cond.laysFinal_spec hlay
      have e1 : c' = cf := by have := hi.symm.trans hf'; simp at this; exact this.1.symm
      rw [hdecl] at hown2
      rw [← e1]; exact Option.some.inj (hown.symm.trans hown2)
    have h6 := u_fits hfc hkC hkind (Or.inr hlay) hi hd hn hf
    exact W.putFinK hexec hb hown (hts _ hlk) hi hst hcf hin2 (by rw [q2]; exact h6) q1 q3 (by rw [hsl]; exact k2_hasslot (q4 k hk)) rfl rfl hdg fin
theorem im_rset {D : va_G} {cl : List vw_C} {a : Nat} {cA : ClassId} {n : Nat} {x : vp_A} {H1 : Heap} (e : H1[a]? = some (vp_cell cA x)) : va_at D cl (a, .inl (cA, x)) H1 := e
theorem im_riast (hexec : p.tables.exec = Jvm.exec) (hb : c.code = cc) (hK : im_K TB D cl tys s) (hki : im_kinds cl tys) {o n : Nat} {f : Nat → Int32} (hW : im_W D cl tys B b h H) (hS : va_S (fun q => B ≤ q) s.heap H locs) (ho : h[o]? = some (.inl (0, n, .inl f))) {i x : Int32} (hin : vp_in i n) (hdg : decode cc pc = .ok (.iastore, 1))
    (kk : ∀ (H1 : Heap) (locs1 : List Loc), im_W D cl tys B b (h.set o (.inl (0, n, .inl (upd f i.toNatClampNeg x)))) H1 → va_S (fun q => B ≤ q) s.heap H1 locs1 → W p l e R s m args below meth c H1 locs1 cells slots Q (F0 m (pc + 1) ls rest)) : W p l e R s m args below meth c H locs cells slots Q (F0 m pc ls (.int x :: .int i :: .ref (B + o) :: rest)) := by
  have ht := hki 0 .int rfl
  refine W.iast hexec hb (hW.2 o _ ho trivial) ((hK.2.2 0 _ ht).1 n (fun j => .int (f j))) (fun q => by cases q) (by show ¬ (i < 0 ∨ (arrV _ _ _).slots.size ≤ _); rw [arrV_size]; exact hin) rfl rfl hdg fun H1 e z oq => ?_
  refine kk H1 _ (hW.set (fun _ => show va_at D cl (B + o, .inl (im_tc tys 0, n, .inl (upd f i.toNatClampNeg x))) H1 from ?_) z oq) (hS.put z oq (Nat.le_add_right _ _))
  show H1[B + o]? = some (vp_cell _ _)
  rw [e]
  show some ((vp_cell _ (n, .inl f)).setSlot _ _) = _
  rw [vp_cell_i, vp_cell_i, arrV_store]
  congr 2
  funext q
  by_cases hq : q = i.toNatClampNeg
  · subst hq
    simp [updV, upd]
  · simp [updV, upd, hq]
theorem im_rbast (hexec : p.tables.exec = Jvm.exec) (hb : c.code = cc) (hK : im_K TB D cl tys s) (hki : im_kinds cl tys) {o n : Nat} {f : Nat → Int32} (hW : im_W D cl tys B b h H) (hS : va_S (fun q => B ≤ q) s.heap H locs) (ho : h[o]? = some (.inl (1, n, .inl f))) {i x : Int32} (hin : vp_in i n) (hdg : decode cc pc = .ok (.bastore, 1))
    (kk : ∀ (H1 : Heap) (locs1 : List Loc), im_W D cl tys B b (h.set o (.inl (1, n, .inl (upd f i.toNatClampNeg x.toInt8.toInt32)))) H1 → va_S (fun q => B ≤ q) s.heap H1 locs1 → W p l e R s m args below meth c H1 locs1 cells slots Q (F0 m (pc + 1) ls rest)) : W p l e R s m args below meth c H locs cells slots Q (F0 m pc ls (.int x :: .int i :: .ref (B + o) :: rest)) := by
  have ht := hki 1 .byte rfl
  refine W.bast hexec hb (hW.2 o _ ho trivial) ((hK.2.2 1 _ ht).1 n (fun j => .int (f j))) (fun q => by cases q) (by show ¬ (i < 0 ∨ (arrV _ _ _).slots.size ≤ _); rw [arrV_size]; exact hin) rfl rfl hdg fun H1 e z oq => ?_
  refine kk H1 _ (hW.set (fun _ => show va_at D cl (B + o, .inl (im_tc tys 1, n, .inl (upd f i.toNatClampNeg x.toInt8.toInt32))) H1 from ?_) z oq) (hS.put z oq (Nat.le_add_right _ _))
  show H1[B + o]? = some (vp_cell _ _)
  rw [e]
  show some ((vp_cell _ (n, .inl f)).setSlot _ _) = _
  rw [vp_cell_i, vp_cell_i, arrV_store]
  congr 2
  funext q
  by_cases hq : q = i.toNatClampNeg
  · subst hq
    simp [updV, upd]
    rfl
  · simp [updV, upd, hq]
theorem im_rlast (hexec : p.tables.exec = Jvm.exec) (hb : c.code = cc) (hK : im_K TB D cl tys s) (hki : im_kinds cl tys) {o n : Nat} {f : Nat → Int64} (hW : im_W D cl tys B b h H) (hS : va_S (fun q => B ≤ q) s.heap H locs) (ho : h[o]? = some (.inl (2, n, .inr (.inl f)))) {i : Int32} {x : Int64} (hin : vp_in i n) (hdg : decode cc pc = .ok (.lastore, 1))
    (kk : ∀ (H1 : Heap) (locs1 : List Loc), im_W D cl tys B b (h.set o (.inl (2, n, .inr (.inl (vp_updL f i.toNatClampNeg x))))) H1 → va_S (fun q => B ≤ q) s.heap H1 locs1 → W p l e R s m args below meth c H1 locs1 cells slots Q (F0 m (pc + 1) ls rest)) : W p l e R s m args below meth c H locs cells slots Q (F0 m pc ls (.long x :: .int i :: .ref (B + o) :: rest)) := by
  have ht := hki 2 .long rfl
  refine W.last hexec hb (hW.2 o _ ho trivial) ((hK.2.2 2 _ ht).1 n (fun j => .long (f j))) (fun q => by cases q) (by show ¬ (i < 0 ∨ (arrV _ _ _).slots.size ≤ _); rw [arrV_size]; exact hin) rfl rfl hdg fun H1 e z oq => ?_
  refine kk H1 _ (hW.set (fun _ => show va_at D cl (B + o, .inl (im_tc tys 2, n, .inr (.inl (vp_updL f i.toNatClampNeg x)))) H1 from ?_) z oq) (hS.put z oq (Nat.le_add_right _ _))
  show H1[B + o]? = some (vp_cell _ _)
  rw [e]
  show some ((vp_cell _ (n, .inr (.inl f))).setSlot _ _) = _
  rw [vp_cell_l, vp_cell_l, arrV_store]
  congr 2
  funext q
  by_cases hq : q = i.toNatClampNeg
  · subst hq
    simp [updV, vp_updL]
  · simp [updV, vp_updL, hq]
theorem im_raast (hexec : p.tables.exec = Jvm.exec) (hb : c.code = cc) (hK : im_K TB D cl tys s) (hki : im_kinds cl tys) {o n v ci : Nat} {r : vw_C} (hc : cl[ci]? = some r) (hkj : im_kk ci = true) {vs : List Value} {f : Nat → Option Nat} (hW : im_W D cl tys B b h H) (hS : va_S (fun q => B ≤ q) s.heap H locs) (ho : h[o]? = some (.inl (3 + ci, n, .inr (.inr (.inr (.inr f)))))) (hv : h[v]? = some (.inr (ci, vs))) {i : Int32} (hin : vp_in i n) (hdg : decode cc pc = .ok (.aastore, 1))
    (kk : ∀ (H1 : Heap) (locs1 : List Loc), im_W D cl tys B b (h.set o (.inl (3 + ci, n, .inr (.inr (.inr (.inr (va_up f i.toNatClampNeg (some v)))))))) H1 → va_S (fun q => B ≤ q) s.heap H1 locs1 → W p l e R s m args below meth c H1 locs1 cells slots Q (F0 m (pc + 1) ls rest)) : W p l e R s m args below meth c H locs cells slots Q (F0 m pc ls (.ref (B + v) :: .int i :: .ref (B + o) :: rest)) := by
  have h0 : ¬ i < 0 := fun q => hin (Or.inl q)
  have hlt : i.toNatClampNeg < n := Nat.not_le.mp fun q => hin (Or.inr q)
  obtain ⟨r', hc', cellV, g1, g2, g3, -⟩ := hW.2 v _ hv (im_lvo hc)
  have ht : tys[3 + ci]? = some (im_tc tys (3 + ci), .object r.1) := hki (3 + ci) (.object r.1) (by rw [Nat.add_comm]; show (if im_kk ci = true then (cl[ci]?).map _ else none) = _; rw [if_pos hkj, hc]; rfl)
  have hcls := (hK.2.1 ci r hc).2
  obtain ⟨kA, comp, k1, k2, k3, -⟩ := (hK.2.2 (3 + ci) _ ht).2
  have hcomp : comp = D.1 ci := Option.some.inj (k3.symm.trans hcls.1)
  subst hcomp
  obtain ⟨kC, hkC, -⟩ := hcls.2
  refine W.aast hexec hb (hW.2 o _ ho trivial) (fun q h => by cases h) (fun h => by cases h) k1 k2 rfl hkC ⟨h0, by show _ < (arrV _ _ _).slots.size; rw [arrV_size]; exact hlt⟩ g1 (fun q h => by rw [g3] at h; cases h) (by rw [g2]; exact hkC) (by rw [g2]; exact va_assign hcls) rfl rfl hdg fun H1 e z oq => ?_
  refine kk H1 _ (hW.set (fun _ => show va_at D cl (B + o, .inl (im_tc tys (3 + ci), n, .inr (.inr (.inr (.inr (fun j => (va_up f i.toNatClampNeg (some v) j).map (fun a => B + a)))))) ) H1 from ?_) z oq) (hS.put z oq (Nat.le_add_right _ _))
  show H1[B + o]? = some (vp_cell _ _)
  rw [e]
  show some ((vp_cell _ (n, .inr (.inr (.inr (.inr (fun j => (f j).map (fun a => B + a))))))).setSlot _ _) = _
  rw [vp_cell_q, vp_cell_q, arrV_store]
  congr 2
  funext q
  by_cases hq : q = i.toNatClampNeg
  · subst hq
    simp [updV, va_up, va_rf]
  · simp [updV, va_up, hq]
theorem im_rnew (hexec : p.tables.exec = Jvm.exec) (hb : c.code = cc) (hown : s.vm.findClass own = some m.cls) (hK : im_K TB D cl tys s) (hcl : im_cls TB F cl) {ci idx : Nat} {C : String} {Tt : u_T} {N : Nat} (hc : cl[ci]? = some (C, Tt, N)) (hl1 : Jvm.Cond.classLink own idx C ∈ TB) (hl2 : Jvm.Cond.instantiable C N ∈ TB) (hl3 : Jvm.Cond.initialized C ∈ TB)
    (hW : im_W D cl tys B b h H) (hB : B ≤ s.heap.size) (hS : va_S (fun q => B ≤ q) s.heap H locs) (hcells : cells + 1 ≤ R.cells) (hslots : slots + N ≤ R.slots) (hdg : decode cc pc = .ok (.new idx, 3))
    (kk : ∀ (H1 : Heap), im_W D cl tys B b (h ++ [.inr (ci, (F ci).map defaultValue)]) H1 → va_S (fun q => B ≤ q) s.heap H1 locs → W p l e R s m args below meth c H1 locs (cells + 1) (slots + N) Q (F0 m (pc + 3) ls (.ref (B + h.length) :: rest))) : W p l e R s m args below meth c H locs cells slots Q (F0 m pc ls rest) := by
  have hts : ∀ w ∈ TB, w.before args s = true := fun w hw => hK.1 w hw args
  obtain ⟨hin, hlen, hpf, hnm⟩ := hcl ci C Tt N hc
  have hpt : ∀ j, j < N → parseFieldDescriptor (Tt j).2.2.1 = some ((F ci).getD j .int) := by
    intro j hj
    rw [hpf j hj, List.getD_eq_getElem?_getD, List.getElem?_eq_getElem (by omega)]
    rfl
  have hKn := hK.2.1 ci _ hc
  refine W.newcK hexec hb hown (hts _ hl1) (hts _ hl2) (hts _ hl3) rfl hdg hcells hslots hKn.2.1 hW.1 fun H1 kC hkC e1 z1 o1 => ?_
  have hz : H1.size = H.size + 1 := by rw [z1, hW.1]
  have ho : ∀ q : Nat, q < H.size → H1[q]? = H[q]? := fun q hq => o1 q (by rw [← hW.1]; exact hq)
  refine kk H1 (hW.push (x := .inr (ci, (F ci).map defaultValue)) (fun _ => ⟨_, hc, (u_born (fun j => (F ci).getD j .int) hts hin hKn hkC e1 hpt).to (fun j hj => ?_)⟩) hz ho) ⟨Nat.le_trans hS.1 (by omega), fun x h1 h2 => (ho x (Nat.lt_of_lt_of_le h1 hS.1)).trans (hS.2.1 x h1 h2), hS.2.2⟩
  have hj' : j < (F ci).length := by rw [hlen]; exact hj
  show defaultValue ((F ci).getD j .int) = vp_V (((F ci).map defaultValue).map (im_rv B b)) j
  unfold vp_V
  rw [List.getD_eq_getElem?_getD, List.getD_eq_getElem?_getD, List.getElem?_map, List.getElem?_map, List.getElem?_eq_getElem hj']
  show defaultValue _ = im_rv B b (defaultValue _)
  cases (F ci)[j] <;> rfl
theorem im_zero_cell {ty : FieldType} {n : Nat} {x : vp_A} (hz : im_zero ty n = some x) (B : Nat) (cA : ClassId) : vp_cell cA (im_ra B x) = arrV cA n (fun _ => defaultValue ty) ∧ x.1 = n := by
  unfold im_zero at hz
  split at hz <;> cases hz <;> exact ⟨rfl, rfl⟩
theorem im_rnewa (hexec : p.tables.exec = Jvm.exec) (hb : c.code = cc) (hK : im_K TB D cl tys s) (hki : im_kinds cl tys) {tk : Nat} {t : ArrayType} (hk : im_kty cl tk = some (newarray.typeOf t)) (hk3 : tk < 3) (hl : Jvm.Cond.arrayClass (newarray.typeOf t) ∈ TB)
    (hW : im_W D cl tys B b h H) (hS : va_S (fun q => B ≤ q) s.heap H locs) {n : Int32} {x : vp_A} (hz : im_zero (newarray.typeOf t) n.toNatClampNeg = some x) (hn : ¬ n < 0) (hbytes : ¬ 536870912 < n.toNatClampNeg * 8) (hcells : cells + 1 ≤ R.cells) (hslots : slots + n.toNatClampNeg ≤ R.slots) (hdg : decode cc pc = .ok (.newarray t, 2))
    (kk : ∀ (H1 : Heap), im_W D cl tys B b (h ++ [.inl (tk, x)]) H1 → va_S (fun q => B ≤ q) s.heap H1 locs → W p l e R s m args below meth c H1 locs (cells + 1) (slots + n.toNatClampNeg) Q (F0 m (pc + 2) ls (.ref (B + h.length) :: rest))) : W p l e R s m args below meth c H locs cells slots Q (F0 m pc ls (.int n :: rest)) := by
  have hcb : n.toNatClampNeg * componentBytes (newarray.typeOf t) ≤ 536870912 := by
    have h8 : componentBytes (newarray.typeOf t) ≤ 8 := by cases t <;> decide
    have := Nat.mul_le_mul_left n.toNatClampNeg h8
    omega
  have ht := hki tk _ hk
  refine va_newaK hexec hb (hK.1 _ hl args) rfl hdg rfl hn rfl hcb hcells hslots hW.1 fun H1 cA e1 z1 o1 hAr hNm => ?_
  have hcA : im_tc tys tk = cA := by
    have h2 := (hK.2.2 tk _ ht).2
    have h3 : s.vm.findClass ("[" ++ (newarray.typeOf t).toString) = some (im_tc tys tk) := by
      cases t <;> exact h2
    exact Option.some.inj (h3.symm.trans hNm)
  have hzz : H1.size = H.size + 1 := by rw [z1, hW.1]
  have ho : ∀ q : Nat, q < H.size → H1[q]? = H[q]? := fun q hq => o1 q (by rw [← hW.1]; exact hq)
  refine kk H1 (hW.push (x := .inl (tk, x)) (fun _ => show va_at D cl (B + h.length, .inl (im_tc tys tk, im_ra B x)) H1 from ?_) hzz ho) ⟨Nat.le_trans hS.1 (by omega), fun x h1 h2 => (ho x (Nat.lt_of_lt_of_le h1 hS.1)).trans (hS.2.1 x h1 h2), hS.2.2⟩
  show H1[B + h.length]? = some (vp_cell _ _)
  rw [(im_zero_cell hz B _).1, hcA]
  exact e1
theorem im_rnewr (hexec : p.tables.exec = Jvm.exec) (hb : c.code = cc) (hown : s.vm.findClass own = some m.cls) (hK : im_K TB D cl tys s) (hki : im_kinds cl tys) {ci idx : Nat} {C : String} {Tt : u_T} {N : Nat} (hc : cl[ci]? = some (C, Tt, N)) (hl1 : Jvm.Cond.classLink own idx C ∈ TB) (hl2 : Jvm.Cond.arrayOver (.object C) ∈ TB) (hkj : im_kk ci = true)
    (hW : im_W D cl tys B b h H) (hS : va_S (fun q => B ≤ q) s.heap H locs) {n : Int32} (hn : ¬ n < 0) (hbytes : ¬ 536870912 < n.toNatClampNeg * 8) (hcells : cells + 1 ≤ R.cells) (hslots : slots + n.toNatClampNeg ≤ R.slots) (hdg : decode cc pc = .ok (.anewarray idx, 3))
    (kk : ∀ (H1 : Heap), im_W D cl tys B b (h ++ [.inl (3 + ci, n.toNatClampNeg, .inr (.inr (.inr (.inr (fun _ => none)))))]) H1 → va_S (fun q => B ≤ q) s.heap H1 locs → W p l e R s m args below meth c H1 locs (cells + 1) (slots + n.toNatClampNeg) Q (F0 m (pc + 3) ls (.ref (B + h.length) :: rest))) : W p l e R s m args below meth c H locs cells slots Q (F0 m pc ls (.int n :: rest)) := by
  have ht : tys[3 + ci]? = some (im_tc tys (3 + ci), .object C) := hki (3 + ci) (.object C) (by rw [Nat.add_comm]; show (if im_kk ci = true then (cl[ci]?).map _ else none) = _; rw [if_pos hkj, hc]; rfl)
  refine W.anew hexec hb hown (hK.1 _ hl1 args) (hK.1 _ hl2 args) rfl hdg rfl hn (by omega) hcells hslots fun cA kA comp h1 h2 h3 h4 => ?_
  obtain ⟨kA', comp', k1, k2, k3, k4⟩ := (hK.2.2 (3 + ci) _ ht).2
  have hcA : im_tc tys (3 + ci) = cA := Option.some.inj (k4.symm.trans h1)
  have hsz : (H.push { cls := cA, slots := Array.replicate n.toNatClampNeg .null, vm := .none } : Heap).size = H.size + 1 := by simp
  have ho : ∀ q : Nat, q < H.size → (H.push { cls := cA, slots := Array.replicate n.toNatClampNeg .null, vm := .none } : Heap)[q]? = H[q]? := by
    intro q hq
    rw [Array.getElem?_push, if_neg (Nat.ne_of_lt hq)]
  have hk := kk (H.push { cls := cA, slots := Array.replicate n.toNatClampNeg .null, vm := .none }) (hW.push (x := .inl (3 + ci, n.toNatClampNeg, .inr (.inr (.inr (.inr (fun _ => none)))))) (fun _ => show va_at D cl (B + h.length, .inl (im_tc tys (3 + ci), n.toNatClampNeg, .inr (.inr (.inr (.inr (fun j => (none : Option Nat).map (fun a => B + a))))))) _ from ?_) hsz ho) ⟨Nat.le_trans hS.1 (by omega), fun x h1 h2 => (ho x (Nat.lt_of_lt_of_le h1 hS.1)).trans (hS.2.1 x h1 h2), hS.2.2⟩
  · rw [hW.1]; exact hk
  · show (H.push _ : Heap)[B + h.length]? = some (vp_cell _ _)
    rw [← hW.1, hcA, vp_cell_q]
    simp only [Array.getElem?_push_size]
    show some _ = some (arrV _ _ _)
    congr 1
    simp only [arrV]
    congr 1
    apply Array.ext
    · simp
    · intro j h1 h2
      simp [va_rf]
end IMT
