/-! the law catches it -/
def TBl : List Jvm.Cond := lw_tbl.filter im_gw
theorem TBl_gw : ∀ w ∈ TBl, im_gw w = true := fun _ hw => (List.mem_filter.mp hw).2
def oWs : List Jvm.Cond := [.methodLink "MapTextLaw" ix_c yO, .code yO me_456.1.2 2 (some .byte), .initialized "MapText", .instanceMethod yO, .selects "MapText" yO yO, .classLink "MapTextLaw" ct_o xE, .methodLink "MapTextLaw" ix_o yL, .static yL, .codeWith yL me_oct.1.2 4 (some .int) hh_o, .initialized "MapTextLaw"]
theorem oW_in : ∀ w ∈ oWs, w ∈ TBl := by decide +kernel
theorem x_cast : Jvm.Cond.castable xE xE ∈ xWs := by decide +kernel
section XOC
variable {l : Launch} {D : va_G} {tys : List (ClassId × FieldType)} {B b : Nat}
theorem x_oct (hl : l.stackTraces = false) (hH : im_Has TBl tb_cl (im_tI tb_mt) (im_tM tb_mt) me_456) (hHo : im_Has TBl tb_cl (im_tI tb_mt) (im_tM tb_mt) me_oct) (hcl : im_cls TBl tb_F tb_cl) (hki : im_kinds tb_cl tys) {o e8 w : Nat} {fs gs : List Value} {i len : Int32} {h : im_H} (h0 : h[o]? = some (.inr (7, fs))) (hf8 : fs[8]? = some (.ref e8)) (h8 : h[e8]? = some (.inr (1, gs))) (hg1 : gs[1]? = some (.int len)) (hn : ¬ (0 ≤ i ∧ i < len)) :
    Met l yL [Jvm.Cond.codeWith yL me_oct.1.2 4 (some .int) hh_o] xRl (va_Pc [.ref (B + o), .int i, .ref (B + w)] (xP TBl D tys B b h)) (im_Qc D tb_cl tys B b (some (.int 1)) (h ++ [xCell])) 1 6 (fun q => B ≤ q) := by
  refine va_MetW (hh := hh_o) (cc := me_oct.1.2) (maxL := 4) (ret := some .int) (by decide) rfl ?_
  intro p e s m args below meth c s₁ Bd hml hv
  obtain ⟨rfl, hK, hW, hX, hZ⟩ := hv
  have hexec := Bd.exec
  have hb := Bd.bytes
  have hr := Bd.returns
  have hown : s.vm.findClass "MapTextLaw" = some m.cls := findClass_of_methodNamed Bd.named
  have hlocks := Bd.notSynchronized
  have hin : meth.name = "octet" := (name_of_methodNamed Bd.named Bd.method).1
  have hB : B ≤ s.heap.size := by rw [hW.1]; exact Nat.le_add_right _ _
  have hCx : im_Cx p s m meth c TBl D tb_cl tys B b (tb_F, none) me_oct.1.2 "MapTextLaw" "octet" := ⟨hexec, hb, hown, hin, hK, hcl, hki, hB, fun z hz => by cases hz⟩
  have hcd : ∀ pc x, im_f cd_oct pc = some x → im_dk me_oct.1.2 pc x ∧ im_ok TBl tb_cl "MapTextLaw" "octet" x := fun pc x hx => ⟨(hHo.2 pc x hx).1, (hHo.2 pc x hx).2.1⟩
  have hts : ∀ z ∈ TBl, z.before [Value.ref (B + o), Value.int i, Value.ref (B + w)].toArray s = true := fun z hz => hK.1 z hz _
  have how : ∀ {j : Nat} {w' : Jvm.Cond}, oWs[j]? = some w' → w'.before [Value.ref (B + o), Value.int i, Value.ref (B + w)].toArray s = true := fun hj => hts _ (oW_in _ (List.mem_of_getElem? hj))
  have htab : c.exceptionTable.toList = tableOf hh_o := vx_table (x := yL) Bd (how (j := 8) rfl)
  rw [lg_entry_eq]
  have key := im_sPre (l := l) (e := e) (R := (headSpec [Jvm.Cond.codeWith yL me_oct.1.2 4 (some .int) hh_o] xRl).room) (args := [Value.ref (B + o), Value.int i, Value.ref (B + w)].toArray) (below := below) (Q := MQ below (im_Qc D tb_cl tys B b (some (.int 1)) (h ++ [xCell])) [Value.ref (B + o), Value.int i, Value.ref (B + w)].toArray s 1 6 (fun q => B ≤ q)) hCx hcd (n0 := h.length) (s0 := im_sz h) (ret := some .int) (pc2 := 4) (L2 := [some (.ref o), some (.int i), some (.ref w), none]) (st2 := [.int i, .ref o, .int 0, .ref w]) (h2 := h) (by rw [Nat.sub_self]; exact Nat.zero_le _) (by rw [Nat.sub_self]; exact Nat.zero_le _) ?_ 4 0 (im_ent [.ref o, .int i, .ref w] 4) [] h rfl _ s.heap [] (im_entry (vs := [.ref o, .int i, .ref w]) (n := 4) (Nat.le_of_ble_eq_true rfl)) (by rw [hml]; rfl) hW va_S.rf (Nat.le_refl _) (Nat.le_refl _)
  · rw [Nat.sub_self, Nat.sub_self] at key
    exact key
  · intro ls H locs hL hml2 hW2 hS2
    rw [Nat.sub_self, Nat.sub_self]
    obtain ⟨r7, hc7⟩ : ∃ r, tb_cl[7]? = some r := ⟨_, rfl⟩
    have hr7 : r7.1 = "MapText" := by cases hc7; rfl
    have hrcv : ∃ cellB : Cell, H[B + o]? = some cellB ∧ cellB.vm.isStatics = false ∧ s.vm.findClass "MapText" = some cellB.cls := by
      obtain ⟨cell, g1, g2, g3⟩ := va_recv hK.2 (im_P1 (hW2.2 o _ h0 (im_lvo hc7))) hc7 (q0 := 0) rfl
      exact ⟨cell, g1, g2, by rw [← hr7]; exact g3⟩
    have hPs : ∀ (U : State), U.heap = H → s.WarmedH U.vm → va_Pc [.ref (B + o), .int i] (xP TBl D tys B b h) (Value.ref (B + o) :: [Value.int i]).toArray U := fun U hU hWm => ⟨rfl, hK.warm TBl_gw hWm, by rw [hU]; exact hW2, hX.warm hWm, by
      rw [show U.heap = H from hU]
      exact vx_Zq.moved hWm.alike (hZ.1.kept hS2.2.1), by
      rw [show U.heap = H from hU]
      exact vx_Zq.moved hWm.alike (hZ.2.kept hS2.2.1)⟩
    intro T hT X
    have hrun := vx_runV (l := l) (e := e) (R := (headSpec [Jvm.Cond.codeWith yL me_oct.1.2 4 (some .int) hh_o] xRl).room) (below := below) (meth := meth) (locs := locs) (cells := 0) (slots := 0) (As := [.int i]) (b := B + o) (rest := [.int 0, .ref (B + w)]) (g := F0 m 4 ls [.int i, .ref (B + o), .int 0, .ref (B + w)]) (cc := me_oct.1.2) (C := "MapText") (index := ix_c) (bytes := me_456.1.2) (maxL := 2) (ret := some .byte) (n := 1) (own := "MapTextLaw") ⟨hexec, hb, rfl, hown, hts⟩ (x_456 hl hH hcl hki h0 hf8 h8 hg1 hn)
      ⟨⟨rfl, rfl, by decide, by decide, fun w' hw' a' U hWm => by rw [List.mem_singleton.mp hw']; exact (hK.warm TBl_gw hWm).1 _ (oW_in _ (List.mem_of_getElem? (i := 1) rfl)) a', List.mem_cons_self, how (j := 1) rfl, how (j := 2) rfl, by decide, fun sig hsig => by cases hsig; rfl, how (j := 0) rfl⟩, how (j := 3) rfl, how (j := 4) rfl⟩
      ⟨xP.blind TBl_gw _ _, hrcv, hPs⟩ rfl rfl (by rw [show (F0 m 4 ls [.int i, .ref (B + o), .int 0, .ref (B + w)]).locals = ls from rfl, hL.1.1]; exact hml2) rfl (Nat.le_of_ble_eq_true rfl) (show decode me_oct.1.2 4 = .ok (.invokevirtual ix_c, 3) by decide +kernel) ⟨Nat.le_refl _, Nat.le_refl _⟩
    rcases hrun T hT X with ⟨v, st₀, t, T', L, g0, X', hL', e1, e2, hq, st⟩ | ⟨q, st₀, t, T', L, E, ce, g0, X', hL', e1, e2, ⟨hE, hWx, hFx⟩, hce, hcv, hclx, st⟩
    · exact hq.elim
    · subst hE
      obtain ⟨k1, k2, k3⟩ := vx_keep g0 e1 hS2 (fun _ _ z => z) (fun _ z => z) hL' hFx
      have hcat : vx_W p l e (headSpec [Jvm.Cond.codeWith yL me_oct.1.2 4 (some .int) hh_o] xRl).room s m [Value.ref (B + o), Value.int i, Value.ref (B + w)].toArray below meth c T'.heap (locs ++ L) (0 + 1) (0 + 6) (MQ below (im_Qc D tb_cl tys B b (some (.int 1)) (h ++ [xCell])) [Value.ref (B + o), Value.int i, Value.ref (B + w)].toArray s 1 6 (fun q => B ≤ q)) (F0 m 4 ls [.int 0, .ref (B + w)]) q := by
        refine vx_catch (own := "MapTextLaw") (name := xE) (E := xE) (ce := ce) hown [] ⟨0, 9, 12, ct_o⟩ [] (by rw [htab]; rfl) (fun z hz => nomatch hz) (by decide) (by decide) (how (j := 5) rfl) (hX _ x_cast _) (by rw [e1]; exact hce) hcv hclx ?_
        have hlv : lv_has ls 4 [] := hL.1
        refine lv_astore_n (k := 3) (i := 3) (nL := 4) hexec hb (by decide +kernel) rfl hlv (by decide) rfl (fun ls' hl' => ?_)
        refine lv_iconst hexec hb (n := 1) (v := 1) (by decide +kernel) rfl ?_
        exact W.iret (v := 1) hexec hb hr (fun t' ht' _ => ⟨rfl, by rw [ht', e1]; exact hWx, k3.F ht'⟩) (fun z hz => k3.2.2 z hz) (by decide +kernel) hlocks
      obtain ⟨t2, a1, b1⟩ := hcat T' rfl X'
      exact ⟨t2, st.trans a1, b1⟩
end XOC
