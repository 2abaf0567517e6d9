theorem cd_len : cd_law.length ≤ 450 := by decide +kernel
theorem ck_law : ∀ z ∈ cd_law, im_lz lw_tbl tb_cl tb_mt me_law hs_law z = true := by
  intro z hz
  obtain ⟨j, hj⟩ := List.getElem?_of_mem hz
  have hlt : j < 450 := Nat.lt_of_lt_of_le (List.getElem?_eq_some_iff.mp hj).1 cd_len
  have hm : z ∈ (cd_law.drop (50 * (j / 50))).take 50 := by
    refine List.mem_of_getElem? (i := j % 50) ?_
    rw [List.getElem?_take, if_pos (Nat.mod_lt _ (by decide)), List.getElem?_drop, Nat.div_add_mod]
    exact hj
  have hq : im_lq (j / 50) = true := by
    have h9 : j / 50 < 9 := by omega
    match j / 50, h9 with
    | 0, _ => exact ck_l0
    | 1, _ => exact ck_l1
    | 2, _ => exact ck_l2
    | 3, _ => exact ck_l3
    | 4, _ => exact ck_l4
    | 5, _ => exact ck_l5
    | 6, _ => exact ck_l6
    | 7, _ => exact ck_l7
    | 8, _ => exact ck_l8
    | k + 9, h => exact absurd h (by omega)
  exact List.all_eq_true.mp hq z hm
theorem im_ok_mn {TB : List Jvm.Cond} {cl : List vw_C} {own mn mn' : String} {x : im_X} (hn : im_npf x.1 = true) (h : im_ok TB cl own mn x) : im_ok TB cl own mn' x := by
  obtain ⟨i, a1, a2⟩ := x
  cases i with
  | putfield idx => cases hn
  | _ => exact h
theorem im_is19_eq {x : im_X} (h : im_is19 x = true) : x = (.invokestatic ix_o, 1924, 3) := by
  obtain ⟨i, a1, a2⟩ := x
  unfold im_is19 at h
  split at h
  · rename_i j hj
    dsimp only at hj
    obtain ⟨h1, h2, h3⟩ := of_decide_eq_true h
    dsimp only at h2 h3
    rw [hj, h1, h2, h3]
  · cases h
theorem law_has : ∀ (pc : Nat) (x : im_X), im_f cd_law pc = some x → im_dk code pc x ∧ (∀ mn, im_ok TBl tb_cl "MapTextLaw" mn x) ∧ (im_isinv x.1 = true → x = (.invokestatic ix_o, 1924, 3) ∨ ∃ q', im_tM tb_mt x.2.1 = some q' ∧ im_inok TBl tb_cl "MapTextLaw" x (im_tI tb_mt x.2.1) q') := by
  intro pc x hx
  have h1 := ck_law (pc, x) (im_lookup_mem hx)
  unfold im_lz at h1
  rw [Bool.and_eq_true, Bool.and_eq_true, Bool.and_eq_true] at h1
  refine ⟨im_dkb_ok h1.1, fun mn => im_ok_mn h1.2.2.1 (im_okb_ok h1.2.1), fun hinv => ?_⟩
  have h2 := h1.2.2.2
  rw [Bool.or_eq_true, Bool.or_eq_true] at h2
  rcases h2 with h2 | h2 | h2
  · have h3 : im_isinv x.1 = false := by simpa using h2
    rw [hinv] at h3
    cases h3
  · exact Or.inl (im_is19_eq h2)
  · right
    split at h2
    · rename_i e' he'
      have hI2 : im_tI tb_mt x.2.1 = e'.1 := by unfold im_tI; rw [he']
      exact ⟨e'.2, by unfold im_tM; rw [he']; rfl, by rw [hI2]; exact im_inb_ok h2⟩
    · cases h2
def clsB (ci : Nat) (q : vw_C) : Bool := decide ((tb_F ci).length = q.2.2) && ((List.range q.2.2).all (fun k => decide (parseFieldDescriptor (q.2.1 k).2.2.1 = (tb_F ci)[k]?)) && (List.range q.2.2).all (fun a => (List.range q.2.2).all (fun b => decide (a = b) || decide ((q.2.1 a).2.1 ≠ (q.2.1 b).2.1))))
theorem cls_b : (List.range 9).all (fun ci => match tb_cl[ci]? with
    | some q => clsB ci q
    | none => false) = true := by decide +kernel
theorem cls_ok : im_cls TBl tb_F tb_cl := by
  intro ci C Tt N hq
  have hlt : ci < 9 := (List.getElem?_eq_some_iff.mp hq).1
  have h1 := List.all_eq_true.mp cls_b ci (List.mem_range.mpr hlt)
  rw [hq] at h1
  dsimp only at h1
  unfold clsB at h1
  rw [Bool.and_eq_true, Bool.and_eq_true] at h1
  obtain ⟨e1, e2, e3⟩ := h1
  refine ⟨fun w hw => ?_, of_decide_eq_true e1, fun k hk => of_decide_eq_true (List.all_eq_true.mp e2 k (List.mem_range.mpr hk)), fun a ha b hb hab => ?_⟩
  · have h2 := List.all_eq_true.mp (cls_in _ (List.mem_of_getElem? hq)) w hw
    rw [Bool.and_eq_true] at h2
    exact List.mem_filter.mpr ⟨of_decide_eq_true h2.1, h2.2⟩
  · have h2 := List.all_eq_true.mp (List.all_eq_true.mp e3 a (List.mem_range.mpr ha)) b (List.mem_range.mpr hb)
    rw [Bool.or_eq_true] at h2
    rcases h2 with h2 | h2
    · exact absurd (of_decide_eq_true h2) hab
    · exact of_decide_eq_true h2
theorem arr_p {s : State} {args : Array Value} {ty : FieldType} (h : (Jvm.Cond.arrayClass ty).before args s = true) (hp : ∀ cA, s.vm.findClass ("[" ++ ty.toString) = some cA → va_RA s cA ty) : ∃ cA, ArrOfT s cA ty ∧ va_RA s cA ty := by
  obtain ⟨c, k, comp, h1, h2, h3⟩ := Cond.arrayClass_spec h
  exact ⟨c, fun n z => ⟨fun k h => (by cases h), k, h2, comp, h3⟩, hp c h1⟩
theorem arr_o {s : State} {args : Array Value} {C : String} (h : (Jvm.Cond.arrayOver (.object C)).before args s = true) : ∃ cA, ArrOfT s cA (.object C) ∧ va_RA s cA (.object C) := by
  obtain ⟨comp, c, k, h1, h2, h3, h4, h5⟩ := Cond.arrayOver_spec h
  exact ⟨c, fun n z => ⟨fun k h => (by cases h), k, h3, comp, h4⟩, k, comp, h3, h4, h1, h5⟩
def aWs : List Jvm.Cond := [.arrayClass .int, .arrayClass .byte, .arrayClass .long, .arrayOver (.object "MapText$Edition"), .arrayOver (.object "MapText$Field"), .arrayOver (.object "MapText$ScreenMap"), .laysStatic Bundle.tN "UNASSIGNED_STACK" Bundle.steD, .laysStatic Bundle.tN "SUPPRESSED_SENTINEL" Bundle.listD, .initialized Bundle.tN]
theorem aW_in : ∀ w ∈ aWs, w ∈ lw_tbl := by decide +kernel
theorem st_K {s : State} {args : Array Value} (hts : ∀ w ∈ lw_tbl, w.before args s = true) : ∃ (D : va_G) (tys : List (ClassId × FieldType)), va_K D tb_cl tys s ∧ im_kinds tb_cl tys := by
  have hk : ∀ ci : Nat, ∃ z : ClassId × (Nat → Nat), ∀ q, tb_cl[ci]? = some q → u_Kn s q.1 q.2.1 q.2.2 z.1 z.2 := by
    intro ci
    cases hq : tb_cl[ci]? with
    | none => exact ⟨(0, fun _ => 0), fun q h => nomatch h⟩
    | some q =>
      obtain ⟨C, Tt, N⟩ := q
      obtain ⟨h1, -⟩ := cls_ok ci C Tt N hq
      obtain ⟨cC, iS, h⟩ := u_known (n := N) hts (fun w hw => (List.mem_filter.mp (h1 w hw)).1) (hts _ (ins_in _ (List.mem_of_getElem? hq)))
      exact ⟨(cC, iS), fun q' h' => by cases h'; exact h⟩
  obtain ⟨F, hF⟩ := Classical.axiomOfChoice hk
  have haw : ∀ {j : Nat} {w : Jvm.Cond}, aWs[j]? = some w → w.before args s = true := fun hj => hts _ (aW_in _ (List.mem_of_getElem? hj))
  obtain ⟨a0, ha0⟩ := arr_p (ty := .int) (haw (j := 0) rfl) (fun _ h => h)
  obtain ⟨a1, ha1⟩ := arr_p (ty := .byte) (haw (j := 1) rfl) (fun _ h => h)
  obtain ⟨a2, ha2⟩ := arr_p (ty := .long) (haw (j := 2) rfl) (fun _ h => h)
  obtain ⟨a5, ha5⟩ := arr_o (haw (j := 3) rfl)
  obtain ⟨a6, ha6⟩ := arr_o (haw (j := 4) rfl)
  obtain ⟨a9, ha9⟩ := arr_o (haw (j := 5) rfl)
  refine ⟨(fun ci => (F ci).1, fun ci => (F ci).2), [(a0, .int), (a1, .byte), (a2, .long), (a0, .int), (a0, .int), (a5, .object "MapText$Edition"), (a6, .object "MapText$Field"), (a0, .int), (a0, .int), (a9, .object "MapText$ScreenMap")], ⟨fun c q hq => hF c q hq, fun k q hq => ?_⟩, fun k ty hk => ?_⟩
  · match k, hq with
    | 0, hq => cases hq; exact ha0
    | 1, hq => cases hq; exact ha1
    | 2, hq => cases hq; exact ha2
    | 3, hq => cases hq; exact ha0
    | 4, hq => cases hq; exact ha0
    | 5, hq => cases hq; exact ha5
    | 6, hq => cases hq; exact ha6
    | 7, hq => cases hq; exact ha0
    | 8, hq => cases hq; exact ha0
    | 9, hq => cases hq; exact ha9
    | k + 10, hq => cases hq
  · match k, hk with
    | 0, hk => cases hk; rfl
    | 1, hk => cases hk; rfl
    | 2, hk => cases hk; rfl
    | 3, hk => cases hk
    | 4, hk => cases hk
    | 5, hk => cases hk; rfl
    | 6, hk => cases hk; rfl
    | 7, hk => cases hk
    | 8, hk => cases hk
    | 9, hk => cases hk; rfl
    | k + 10, hk =>
      exfalso
      have hz : im_kk (k + 7) = false := by
        unfold im_kk
        simp
      have hk : (if im_kk (k + 7) = true then (tb_cl[k + 7]?).map (fun r => FieldType.object r.1) else none) = some ty := hk
      rw [hz] at hk
      cases hk
