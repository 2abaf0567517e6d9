/-! the tables' words are there: a check that the kernel runs, by places -/
def im_pw (TT : List Jvm.Cond) (p : Nat) (w : Jvm.Cond) : Bool := decide (TT[p]? = some w) && im_gw w
theorem im_pw_mem {TT : List Jvm.Cond} {p : Nat} {w : Jvm.Cond} (h : im_pw TT p w = true) : w ∈ TT.filter im_gw := by
  unfold im_pw at h
  rw [Bool.and_eq_true] at h
  exact List.mem_filter.mpr ⟨List.mem_of_getElem? (of_decide_eq_true h.1), h.2⟩
def im_pf (TT : List Jvm.Cond) (p : Nat) (own : String) (idx : Nat) (q : String × String × String × Bool) : Bool := match TT[p]? with
  | some (.fieldLink a i r n d) => im_gw (.fieldLink a i r n d) && decide (a = own ∧ i = idx ∧ r = q.1 ∧ n = q.2.1 ∧ d = q.2.2.1)
  | some (.fieldLinkNest a i r n d h) => im_gw (.fieldLinkNest a i r n d h) && decide (a = own ∧ i = idx ∧ r = q.1 ∧ n = q.2.1 ∧ d = q.2.2.1)
  | _ => false
theorem im_pf_lk {TT : List Jvm.Cond} {p : Nat} {own : String} {idx : Nat} {q : String × String × String × Bool} (h : im_pf TT p own idx q = true) : im_lk (TT.filter im_gw) own idx q := by
  unfold im_pf at h
  split at h
  · rename_i a i r n d hp
    rw [Bool.and_eq_true] at h
    obtain ⟨h1, h2⟩ := h
    obtain ⟨rfl, rfl, rfl, rfl, rfl⟩ := of_decide_eq_true h2
    exact Or.inl (List.mem_filter.mpr ⟨List.mem_of_getElem? hp, h1⟩)
  · rename_i a i r n d hh hp
    rw [Bool.and_eq_true] at h
    obtain ⟨h1, h2⟩ := h
    obtain ⟨rfl, rfl, rfl, rfl, rfl⟩ := of_decide_eq_true h2
    exact Or.inr ⟨hh, List.mem_filter.mpr ⟨List.mem_of_getElem? hp, h1⟩⟩
  · cases h
def im_pm (TT : List Jvm.Cond) (p : Nat) (own : String) (idx : Nat) (y : MethodName) : Bool := match TT[p]? with
  | some (.methodLink a i z) => im_gw (.methodLink a i z) && decide (a = own ∧ i = idx ∧ z = y)
  | some (.methodLinkNest a i z h) => im_gw (.methodLinkNest a i z h) && decide (a = own ∧ i = idx ∧ z = y)
  | _ => false
theorem im_pm_lk {TT : List Jvm.Cond} {p : Nat} {own : String} {idx : Nat} {y : MethodName} (h : im_pm TT p own idx y = true) : im_lkM (TT.filter im_gw) own idx y := by
  unfold im_pm at h
  split at h
  · rename_i a i z hp
    rw [Bool.and_eq_true] at h
    obtain ⟨h1, h2⟩ := h
    obtain ⟨rfl, rfl, rfl⟩ := of_decide_eq_true h2
    exact Or.inl (List.mem_filter.mpr ⟨List.mem_of_getElem? hp, h1⟩)
  · rename_i a i z hh hp
    rw [Bool.and_eq_true] at h
    obtain ⟨h1, h2⟩ := h
    obtain ⟨rfl, rfl, rfl⟩ := of_decide_eq_true h2
    exact Or.inr ⟨hh, List.mem_filter.mpr ⟨List.mem_of_getElem? hp, h1⟩⟩
  · cases h
def im_okb (TT : List Jvm.Cond) (cl : List vw_C) (own mn : String) (x : im_X) (hs : List Nat) : Bool := match x.1 with
  | .getfield idx => match cl[x.2.1]? with
    | some r => decide (x.2.2 < r.2.2) && im_pf TT (hs.getD 0 0) own idx (r.2.1 x.2.2)
    | none => false
  | .putfield idx => match cl[x.2.1]? with
    | some r => decide (x.2.2 < r.2.2) && (match (r.2.1 x.2.2).2.2.2 with
      | true => decide (mn = "<init>") && (decide ((r.2.1 x.2.2).1 = own) && im_pw TT (hs.getD 0 0) (.fieldLink own idx (r.2.1 x.2.2).1 (r.2.1 x.2.2).2.1 (r.2.1 x.2.2).2.2.1))
      | false => im_pf TT (hs.getD 0 0) own idx (r.2.1 x.2.2))
    | none => false
  | .new idx => match cl[x.2.1]? with
    | some r => im_pw TT (hs.getD 0 0) (.classLink own idx r.1) && (im_pw TT (hs.getD 1 0) (.instantiable r.1 r.2.2) && im_pw TT (hs.getD 2 0) (.initialized r.1))
    | none => false
  | .newarray t => decide (x.2.1 < 3) && (decide (im_kty cl x.2.1 = some (newarray.typeOf t)) && im_pw TT (hs.getD 0 0) (.arrayClass (newarray.typeOf t)))
  | .anewarray idx => match cl[x.2.1]? with
    | some r => im_pw TT (hs.getD 0 0) (.classLink own idx r.1) && (im_pw TT (hs.getD 1 0) (.arrayOver (.object r.1)) && im_kk x.2.1)
    | none => false
  | .aaload | .aastore => (cl[x.2.1]?).isSome && im_kk x.2.1
  | .arraylength => (im_kty cl x.2.1).isSome
  | .ldc2_w idx => im_pw TT (hs.getD 0 0) (.constantLong own idx (Int64.ofNat x.2.1))
  | .lookupswitch _ ps => (ps.toList.zip (ps.toList.drop 1)).all (fun (a, next) => a.1 < next.1)
  | _ => true
theorem im_okb_ok {TT : List Jvm.Cond} {cl : List vw_C} {own mn : String} {x : im_X} {hs : List Nat} (h : im_okb TT cl own mn x hs = true) : im_ok (TT.filter im_gw) cl own mn x := by
  obtain ⟨i, a1, a2⟩ := x
  cases i with
  | getfield idx =>
    simp only [im_okb] at h
    split at h
    · rename_i r hr
      rw [Bool.and_eq_true] at h
      exact ⟨r.1, r.2.1, r.2.2, hr, of_decide_eq_true h.1, im_pf_lk h.2⟩
    · cases h
  | putfield idx =>
    simp only [im_okb] at h
    split at h
    · rename_i r hr
      rw [Bool.and_eq_true] at h
      refine ⟨r.1, r.2.1, r.2.2, hr, of_decide_eq_true h.1, ?_⟩
      have h2 := h.2
      split at h2
      · rename_i hf
        rw [Bool.and_eq_true, Bool.and_eq_true] at h2
        exact Or.inr ⟨hf, of_decide_eq_true h2.1, of_decide_eq_true h2.2.1, im_pw_mem h2.2.2⟩
      · rename_i hf
        exact Or.inl ⟨hf, im_pf_lk h2⟩
    · cases h
  | new idx =>
    simp only [im_okb] at h
    split at h
    · rename_i r hr
      rw [Bool.and_eq_true, Bool.and_eq_true] at h
      exact ⟨r.1, r.2.1, r.2.2, hr, im_pw_mem h.1, im_pw_mem h.2.1, im_pw_mem h.2.2⟩
    · cases h
  | newarray t =>
    simp only [im_okb] at h
    rw [Bool.and_eq_true, Bool.and_eq_true] at h
    exact ⟨of_decide_eq_true h.1, of_decide_eq_true h.2.1, im_pw_mem h.2.2⟩
  | anewarray idx =>
    simp only [im_okb] at h
    split at h
    · rename_i r hr
      rw [Bool.and_eq_true, Bool.and_eq_true] at h
      exact ⟨r.1, r.2.1, r.2.2, hr, im_pw_mem h.1, im_pw_mem h.2.1, h.2.2⟩
    · cases h
  | aaload =>
    have h : ((cl[a1]?).isSome && im_kk a1) = true := h
    rw [Bool.and_eq_true] at h
    obtain ⟨r, hr⟩ := Option.isSome_iff_exists.mp h.1
    exact ⟨r.1, r.2.1, r.2.2, hr, h.2⟩
  | aastore =>
    have h : ((cl[a1]?).isSome && im_kk a1) = true := h
    rw [Bool.and_eq_true] at h
    obtain ⟨r, hr⟩ := Option.isSome_iff_exists.mp h.1
    exact ⟨r.1, r.2.1, r.2.2, hr, h.2⟩
  | arraylength => exact Option.isSome_iff_exists.mp h
  | ldc2_w idx => exact im_pw_mem h
  | lookupswitch d ps => exact h
  | _ => exact trivial
def im_cwb (TT : List Jvm.Cond) (y : MethodName × ByteArray) (q : im_M) (hs : List Nat) : Bool := im_pw TT (hs.getD 1 0) (.code y.1 y.2 q.2.1 q.2.2) && (im_pw TT (hs.getD 2 0) (.initialized y.1.cls) && (decide (y.1.cls ≠ "java/lang/invoke/MethodHandle" ∧ y.1.cls ≠ "java/lang/invoke/VarHandle") && decide (q.2.1 ≤ 29)))
theorem im_cwb_ok {TT : List Jvm.Cond} {y : MethodName × ByteArray} {q : im_M} {hs : List Nat} {np : Nat} (h : im_cwb TT y q hs = true) (hn : (parseMethodDescriptor y.1.desc).map (fun d => d.parameters.length) = some np) : im_cw (TT.filter im_gw) y q np := by
  unfold im_cwb at h
  rw [Bool.and_eq_true, Bool.and_eq_true, Bool.and_eq_true] at h
  exact ⟨im_pw_mem h.1, im_pw_mem h.2.1, of_decide_eq_true h.2.2.1, hn, of_decide_eq_true h.2.2.2⟩
def im_inb (TT : List Jvm.Cond) (cl : List vw_C) (own : String) (x : im_X) (y : MethodName × ByteArray) (q : im_M) (hs : List Nat) : Bool := match (parseMethodDescriptor y.1.desc).map (fun d => d.parameters.length) with
  | none => false
  | some np => im_cwb TT y q hs && (match x.1 with
    | .invokevirtual idx => decide (x.2.2 = np + 1) && (im_pm TT (hs.getD 0 0) own idx y.1 && (im_pw TT (hs.getD 3 0) (.instanceMethod y.1) && (im_pw TT (hs.getD 4 0) (.selects y.1.cls y.1 y.1) && (match cl[x.2.1 / 64]? with
        | some r => decide (r.1 = y.1.cls)
        | none => false))))
    | .invokespecial idx => decide (x.2.2 = np + 1) && (im_pm TT (hs.getD 0 0) own idx y.1 && (im_pw TT (hs.getD 3 0) (.instanceMethod y.1) && (decide (y.1.name = "<init>") && q.2.2.isNone)))
    | .invokestatic idx => decide (x.2.2 = np) && (im_pm TT (hs.getD 0 0) own idx y.1 && im_pw TT (hs.getD 3 0) (.static y.1))
    | _ => false)
theorem im_inb_ok {TT : List Jvm.Cond} {cl : List vw_C} {own : String} {x : im_X} {y : MethodName × ByteArray} {q : im_M} {hs : List Nat} (h : im_inb TT cl own x y q hs = true) : im_inok (TT.filter im_gw) cl own x y q := by
  unfold im_inb at h
  split at h
  · cases h
  · rename_i np hn
    rw [Bool.and_eq_true] at h
    obtain ⟨h1, h2⟩ := h
    have hc := im_cwb_ok h1 hn
    obtain ⟨i, a1, a2⟩ := x
    cases i with
    | invokevirtual idx =>
      simp only [Bool.and_eq_true] at h2
      obtain ⟨g1, g2, g3, g4, g5⟩ := h2
      split at g5
      · rename_i r hr
        exact ⟨np, hc, of_decide_eq_true g1, im_pm_lk g2, im_pw_mem g3, im_pw_mem g4, r, hr, of_decide_eq_true g5⟩
      · cases g5
    | invokespecial idx =>
      simp only [Bool.and_eq_true] at h2
      obtain ⟨g1, g2, g3, g4, g5⟩ := h2
      exact ⟨np, hc, of_decide_eq_true g1, im_pm_lk g2, im_pw_mem g3, of_decide_eq_true g4, Option.isNone_iff_eq_none.mp g5⟩
    | invokestatic idx =>
      simp only [Bool.and_eq_true] at h2
      obtain ⟨g1, g2, g3⟩ := h2
      exact ⟨np, hc, of_decide_eq_true g1, im_pm_lk g2, im_pw_mem g3⟩
    | _ => cases h2
def im_ntb (TT : List Jvm.Cond) (own : String) (x : im_X) (hs : List Nat) : Bool := match x.1 with
  | .invokespecial idx => decide (x.2.1 = 1920 ∧ x.2.2 = 1) && (im_pw TT (hs.getD 0 0) (.methodLink own idx Lib.objectInit) && (im_pw TT (hs.getD 1 0) (.instanceMethod Lib.objectInit) && im_pw TT (hs.getD 2 0) (.code Lib.objectInit ⟨#[0xb1]⟩ 1 none)))
  | .invokestatic idx => (decide (x.2.1 = 1921 ∧ x.2.2 = 5) && (im_pw TT (hs.getD 0 0) (.methodLink own idx arraycopyName) && (im_pw TT (hs.getD 1 0) (.native arraycopyName) && (im_pw TT (hs.getD 2 0) (.static arraycopyName) && im_pw TT (hs.getD 3 0) (.initialized "java/lang/System"))))) ||
      ((decide (x.2.1 = 1922 ∧ x.2.2 = 2) && (im_pw TT (hs.getD 0 0) (.methodLink own idx Lib.Math.min.name) && (im_pw TT (hs.getD 1 0) (.static Lib.Math.min.name) && (im_pw TT (hs.getD 2 0) (.initialized "java/lang/Math") && im_pw TT (hs.getD 3 0) (.code Lib.Math.min.name Lib.Math.min.code 2 (some .int)))))) ||
      (decide (x.2.1 = 1923 ∧ x.2.2 = 1) && (im_pw TT (hs.getD 0 0) (.methodLink own idx Lib.MathLoose.abs_long.x) && (im_pw TT (hs.getD 1 0) (.static Lib.MathLoose.abs_long.x) && (im_pw TT (hs.getD 2 0) (.initialized "java/lang/Math") && im_pw TT (hs.getD 3 0) (.code Lib.MathLoose.abs_long.x Lib.MathLoose.abs_long.code 2 (some .long)))))))
  | _ => false
theorem im_ntb_ok {TT : List Jvm.Cond} {own : String} {x : im_X} {hs : List Nat} (h : im_ntb TT own x hs = true) : im_natok (TT.filter im_gw) own x := by
  obtain ⟨i, a1, a2⟩ := x
  cases i with
  | invokespecial idx =>
    simp only [im_ntb, Bool.and_eq_true] at h
    obtain ⟨g1, g2, g3, g4⟩ := h
    have g1 := of_decide_eq_true g1
    exact ⟨g1.1, g1.2, im_pw_mem g2, im_pw_mem g3, im_pw_mem g4⟩
  | invokestatic idx =>
    simp only [im_ntb, Bool.or_eq_true, Bool.and_eq_true] at h
    rcases h with ⟨g1, g2, g3, g4, g5⟩ | ⟨g1, g2, g3, g4, g5⟩ | ⟨g1, g2, g3, g4, g5⟩
    · have g1 := of_decide_eq_true g1
      exact Or.inl ⟨g1.1, g1.2, im_pw_mem g2, im_pw_mem g3, im_pw_mem g4, im_pw_mem g5⟩
    · have g1 := of_decide_eq_true g1
      exact Or.inr (Or.inl ⟨g1.1, g1.2, im_pw_mem g2, im_pw_mem g3, im_pw_mem g4, im_pw_mem g5⟩)
    · have g1 := of_decide_eq_true g1
      exact Or.inr (Or.inr ⟨g1.1, g1.2, im_pw_mem g2, im_pw_mem g3, im_pw_mem g4, im_pw_mem g5⟩)
  | _ => cases h
def im_dkb (cc : ByteArray) (pc : Nat) (x : im_X) : Bool := match x.1 with
  | .tableswitch a b c d => decide (decode cc pc = .ok (.tableswitch a b c d, x.2.1))
  | .lookupswitch a b => decide (decode cc pc = .ok (.lookupswitch a b, x.2.1))
  | .ifCond a off => decide (decode cc pc = .ok (.ifCond a off, 3)) && decide (0 ≤ (pc : Int) + off)
  | .if_icmp a off => decide (decode cc pc = .ok (.if_icmp a off, 3)) && decide (0 ≤ (pc : Int) + off)
  | .ifnull off => decide (decode cc pc = .ok (.ifnull off, 3)) && decide (0 ≤ (pc : Int) + off)
  | .ifnonnull off => decide (decode cc pc = .ok (.ifnonnull off, 3)) && decide (0 ≤ (pc : Int) + off)
  | i => decide (decode cc pc = .ok (i, im_len i))
theorem im_dkb_ok {cc : ByteArray} {pc : Nat} {x : im_X} (h : im_dkb cc pc x = true) : im_dk cc pc x := by
  obtain ⟨i, a1, a2⟩ := x
  unfold im_dkb at h
  unfold im_dk
  dsimp only at h ⊢
  split at h
  · exact of_decide_eq_true h
  · exact of_decide_eq_true h
  · rw [Bool.and_eq_true] at h
    exact ⟨of_decide_eq_true h.1, of_decide_eq_true h.2⟩
  · rw [Bool.and_eq_true] at h
    exact ⟨of_decide_eq_true h.1, of_decide_eq_true h.2⟩
  · rw [Bool.and_eq_true] at h
    exact ⟨of_decide_eq_true h.1, of_decide_eq_true h.2⟩
  · rw [Bool.and_eq_true] at h
    exact ⟨of_decide_eq_true h.1, of_decide_eq_true h.2⟩
  · rename_i g1 g2 g3 g4 g5 g6
    split
    · exact absurd rfl (g1 _ _ _ _)
    · exact absurd rfl (g2 _ _)
    · exact absurd rfl (g3 _ _)
    · exact absurd rfl (g4 _ _)
    · exact absurd rfl (g5 _)
    · exact absurd rfl (g6 _)
    · exact of_decide_eq_true h
/-- a method, its code, what the places of its words are -/
abbrev im_E : Type := (MethodName × ByteArray) × im_M
def im_tM (mt : List (Nat × im_E)) (y : Nat) : Option im_M := (mt.lookup y).map fun e => e.2
def im_tI (mt : List (Nat × im_E)) (y : Nat) : MethodName × ByteArray := match mt.lookup y with
  | some e => e.1
  | none => (⟨"", "", ""⟩, ⟨#[]⟩)
def im_mchk (TT : List Jvm.Cond) (cl : List vw_C) (mt : List (Nat × im_E)) (e : im_E) (hs : List (Nat × List Nat)) : Bool := plainName e.1.1.cls && e.2.1.all fun z => im_dkb e.1.2 z.1 z.2 && (im_okb TT cl e.1.1.cls e.1.1.name z.2 ((hs.lookup z.1).getD []) && (!im_isinv z.2.1 || (match mt.lookup z.2.2.1 with
  | some e' => im_inb TT cl e.1.1.cls z.2 e'.1 e'.2 ((hs.lookup z.1).getD [])
  | none => im_ntb TT e.1.1.cls z.2 ((hs.lookup z.1).getD []))))
theorem im_lookup_mem {α : Type} {l : List (Nat × α)} {k : Nat} {v : α} (h : l.lookup k = some v) : (k, v) ∈ l := by
  induction l with
  | nil => cases h
  | cons a t ih =>
    obtain ⟨a1, a2⟩ := a
    rw [List.lookup_cons] at h
    split at h
    · rename_i hb
      cases h
      have : k = a1 := by simpa using hb
      rw [this]
      exact List.mem_cons_self
    · exact List.mem_cons_of_mem _ (ih h)
theorem im_sys {TT : List Jvm.Cond} {cl : List vw_C} {mt : List (Nat × im_E)} (h : ∀ z ∈ mt, ∃ hs, im_mchk TT cl mt z.2 hs = true) : im_Sys (TT.filter im_gw) cl (im_tI mt) (im_tM mt) := by
  intro y q hy
  unfold im_tM at hy
  cases hl : mt.lookup y with
  | none => rw [hl] at hy; cases hy
  | some e =>
    rw [hl] at hy
    cases hy
    have hI : im_tI mt y = e.1 := by unfold im_tI; rw [hl]
    rw [hI]
    obtain ⟨hs, hc⟩ := h _ (im_lookup_mem hl)
    unfold im_mchk at hc
    rw [Bool.and_eq_true] at hc
    refine ⟨hc.1, fun pc x hx => ?_⟩
    have h1 := List.all_eq_true.mp hc.2 (pc, x) (im_lookup_mem hx)
    rw [Bool.and_eq_true, Bool.and_eq_true] at h1
    refine ⟨im_dkb_ok h1.1, im_okb_ok h1.2.1, fun hinv => ?_⟩
    have h2 := h1.2.2
    rw [Bool.or_eq_true] at h2
    rcases h2 with h2 | h2
    · have h3 : im_isinv x.1 = false := by simpa using h2
      rw [hinv] at h3
      cases h3
    · split at h2
      · rename_i e' he'
        left
        have hI2 : im_tI mt x.2.1 = e'.1 := by unfold im_tI; rw [he']
        exact ⟨e'.2, by unfold im_tM; rw [he']; rfl, by rw [hI2]; exact im_inb_ok h2⟩
      · rename_i he'
        right
        exact ⟨by unfold im_tM; rw [he']; rfl, im_ntb_ok h2⟩
