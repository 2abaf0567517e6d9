/-! the class's octet throws -/
theorem im_chk1 {TT : List Jvm.Cond} {cl : List vw_C} {mt : List (Nat × im_E)} {e : im_E} {hs : List (Nat × List Nat)} (hc : im_mchk TT cl mt e hs = true) : im_Has (TT.filter im_gw) cl (im_tI mt) (im_tM mt) e := by
  unfold im_mchk at hc
  rw [Bool.and_eq_true] at hc
  refine ⟨hc.1, fun pc x hx => ?_⟩
  have h1 := List.all_eq_true.mp hc.2 (pc, x) (im_lookup_mem hx)
  rw [Bool.and_eq_true, Bool.and_eq_true] at h1
  refine ⟨im_dkb_ok h1.1, im_okb_ok h1.2.1, fun hinv => ?_⟩
  have h2 := h1.2.2
  rw [Bool.or_eq_true] at h2
  rcases h2 with h2 | h2
  · have h3 : im_isinv x.1 = false := by simpa using h2
    rw [hinv] at h3
    cases h3
  · split at h2
    · rename_i e' he'
      left
      have hI2 : im_tI mt x.2.1 = e'.1 := by unfold im_tI; rw [he']
      exact ⟨e'.2, by unfold im_tM; rw [he']; rfl, by rw [hI2]; exact im_inb_ok h2⟩
    · rename_i he'
      right
      exact ⟨by unfold im_tM; rw [he']; rfl, im_ntb_ok h2⟩
def yO : MethodName := ⟨"MapText", "octet", "(I)B"⟩
def yL : MethodName := ⟨"MapTextLaw", "octet", "(LMapText;I[J)I"⟩
def xRm : Room := { frames := 8, cells := 1, slots := 6, locals := 160 }
def xRl : Room := { frames := 10, cells := 1, slots := 6, locals := 240 }
section XTH
variable {l : Launch} {D : va_G} {tys : List (ClassId × FieldType)} {B b : Nat} {TB : List Jvm.Cond}
def xP (TB : List Jvm.Cond) (D : va_G) (tys : List (ClassId × FieldType)) (B b : Nat) (h : im_H) (U : State) : Prop := im_K TB D tb_cl tys U ∧ im_W D tb_cl tys B b h U.heap ∧ xK U ∧ xZ B U
def xXC (D : va_G) (tys : List (ClassId × FieldType)) (B b : Nat) (h : im_H) : String → State → State → Prop := fun E st t => E = xE ∧ im_W D tb_cl tys B b (h ++ [xCell]) t.heap ∧ va_F (fun q => B ≤ q) st t
theorem xP.blind (hg : ∀ w ∈ TB, im_gw w = true) (av : List Value) (h : im_H) : FrameBlind (va_Pc av (xP TB D tys B b h)) := by
  intro a U g mk hq
  obtain ⟨h1, h2, h3, h4, h5, h6⟩ := hq
  exact ⟨h1, im_K.same (u := U) (U := U.calling g mk a) hg rfl h2, h3, xK.warm (State.WarmedH.refl U) h4, vx_Zq.moved (Vm.Alike.refl U.vm) h5, vx_Zq.moved (Vm.Alike.refl U.vm) h6⟩
theorem x_456 (hl : l.stackTraces = false) (hH : im_Has TB tb_cl (im_tI tb_mt) (im_tM tb_mt) me_456) (hcl : im_cls TB tb_F tb_cl) (hki : im_kinds tb_cl tys) {o e8 : Nat} {fs gs : List Value} {i len : Int32} {h : im_H} (h0 : h[o]? = some (.inr (7, fs))) (hf8 : fs[8]? = some (.ref e8)) (h8 : h[e8]? = some (.inr (1, gs))) (hg1 : gs[1]? = some (.int len)) (hn : ¬ (0 ≤ i ∧ i < len)) :
    vx_Met l yO [Jvm.Cond.code yO me_456.1.2 2 (some .byte)] xRm (va_Pc [.ref (B + o), .int i] (xP TB D tys B b h)) (fun _ _ _ _ => False) (xXC D tys B b h) 1 6 (fun q => B ≤ q) := by
  refine vx_ofW (cc := me_456.1.2) (maxL := 2) (ret := some .byte) (by decide) rfl ?_
  intro p e s m args below meth c s₁ Bd hml htab hv
  obtain ⟨rfl, hK, hW, hX, hZ⟩ := hv
  have hexec := Bd.exec
  have hb := Bd.bytes
  have hown : s.vm.findClass "MapText" = some m.cls := findClass_of_methodNamed Bd.named
  have hlocks := Bd.notSynchronized
  have hin : meth.name = "octet" := (name_of_methodNamed Bd.named Bd.method).1
  have hB : B ≤ s.heap.size := by rw [hW.1]; exact Nat.le_add_right _ _
  have hCx : im_Cx p s m meth c TB D tb_cl tys B b (tb_F, none) me_456.1.2 "MapText" "octet" := ⟨hexec, hb, hown, hin, hK, hcl, hki, hB, fun z hz => by cases hz⟩
  have hcd : ∀ pc x, im_f cd_456 pc = some x → im_dk me_456.1.2 pc x ∧ im_ok TB tb_cl "MapText" "octet" x := fun pc x hx => ⟨(hH.2 pc x hx).1, (hH.2 pc x hx).2.1⟩
  have hpre : ∃ n, im_pre (tb_F, none) (some .byte) cd_456 n 0 [some (.ref o), some (.int i)] [] h = some (15, [some (.ref o), some (.int i)], [], h) := by
    by_cases hi : i < 0
    · refine ⟨2, im_pre.step rfl rfl (im_pre.step (pc' := 15) (L' := [some (.ref o), some (.int i)]) (st' := []) (h' := h) rfl ?_ rfl)⟩
      show (if im_cmp .lt i 0 = true then im_jmp 1 14 _ [] h else im_go 4 _ [] h) = _
      rw [if_pos (show im_cmp .lt i 0 = true from decide_eq_true hi)]
      rfl
    · have hlen : ¬ i < len := fun y => hn ⟨Int32.not_lt.mp hi, y⟩
      refine ⟨7, im_pre.step rfl rfl (im_pre.step (pc' := 4) (L' := [some (.ref o), some (.int i)]) (st' := []) (h' := h) rfl ?_ (im_pre.step rfl rfl (im_pre.step rfl rfl (im_pre.step (pc' := 9) (L' := [some (.ref o), some (.int i)]) (st' := [.ref e8, .int i]) (h' := h) rfl ?_ (im_pre.step (pc' := 12) (L' := [some (.ref o), some (.int i)]) (st' := [.int len, .int i]) (h' := h) rfl ?_ (im_pre.step (pc' := 15) (L' := [some (.ref o), some (.int i)]) (st' := []) (h' := h) rfl ?_ rfl))))))⟩
      · show (if im_cmp .lt i 0 = true then im_jmp 1 14 _ [] h else im_go 4 _ [] h) = _
        rw [if_neg (show ¬ im_cmp .lt i 0 = true from fun y => hi (of_decide_eq_true y))]
        rfl
      · show im_get 7 8 9 _ [.ref o, .int i] h = _
        simp only [im_get, h0, if_true, hf8]
        rfl
      · show im_get 1 1 12 _ [.ref e8, .int i] h = _
        simp only [im_get, h8, if_true, hg1]
        rfl
      · show (if im_cmp .lt i len = true then im_jmp 12 11 _ [] h else im_go 15 _ [] h) = _
        rw [if_neg (show ¬ im_cmp .lt i len = true from fun y => hlen (of_decide_eq_true y))]
        rfl
  obtain ⟨n, hpre⟩ := hpre
  rw [lg_entry_eq]
  have key := im_sPre (l := l) (e := e) (R := (headSpec [Jvm.Cond.code yO me_456.1.2 2 (some .byte)] xRm).room) (args := [Value.ref (B + o), Value.int i].toArray) (below := below) (Q := vx_MQ below (fun _ _ _ _ => False) (xXC D tys B b h) [Value.ref (B + o), Value.int i].toArray s 1 6 (fun q => B ≤ q)) hCx hcd (n0 := h.length) (s0 := im_sz h) (ret := some .byte) (by rw [Nat.sub_self]; exact Nat.zero_le _) (by rw [Nat.sub_self]; exact Nat.zero_le _) ?_ n 0 (im_ent [.ref o, .int i] 2) [] h hpre _ s.heap [] (im_entry (vs := [.ref o, .int i]) (n := 2) (Nat.le_refl _)) (by rw [hml]; rfl) hW va_S.rf (Nat.le_refl _) (Nat.le_refl _)
  · rw [Nat.sub_self, Nat.sub_self] at key
    exact key
  · intro ls H locs hL hml2 hW2 hS2
    rw [Nat.sub_self, Nat.sub_self]
    refine vx_throw0 (rest := []) (cc := me_456.1.2) (pc := 15) hexec hb hl (own := "MapText") (cls := xE) (names := xNs) (ik := 161) (ic := 163) hown (by decide) (by decide) (hX _ (List.mem_cons_self) _) (hX _ (List.mem_cons_of_mem _ List.mem_cons_self) _) (fun w hw => hX w (List.mem_cons_of_mem _ (List.mem_cons_of_mem _ hw)) _) xW_ot hZ.1 hZ.2 hS2 (by rw [hL.1.1]; exact hml2) (by decide +kernel) (by decide +kernel) (by decide +kernel) (by decide +kernel) (fun x hx => (htab x hx).elim) (by decide) (by decide) (by decide) (by decide) hlocks (fun t hal hsz hq => ⟨rfl, ?_, ?_, fun q h1 h2 => ?_⟩) (fun z hz => hS2.2.2 z hz) (Nat.le_refl _) (Nat.le_refl _)
    · refine im_W.push hW2 (fun hlv => absurd (show 99 < tb_cl.length from hlv) (by decide)) hsz hq
    · rw [hsz]
      have := hS2.1
      omega
    · rw [hq q (Nat.lt_of_lt_of_le h1 hS2.1)]
      exact hS2.2.1 q h1 h2
end XTH
