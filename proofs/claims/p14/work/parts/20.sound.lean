/-! THE KIT'S MACHINE FOLLOWS THE SMALL ONE -/
def im_rv (B b : Nat) (v : Value) : Value := match v with
  | .int x => .int x
  | .long x => .long x
  | .float x => .float x
  | .double x => .double x
  | .null => .null
  | .ref a => .ref (B + a)
  | .retAddr _ => .ref b
def im_tc (tys : List (ClassId × FieldType)) (k : Nat) : ClassId := ((tys[k]?).map fun q => q.1).getD 0
def im_ra (B : Nat) (x : vp_A) : vp_A := (x.1, match x.2 with
  | .inl f => .inl f
  | .inr (.inl f) => .inr (.inl f)
  | .inr (.inr (.inl f)) => .inr (.inr (.inl f))
  | .inr (.inr (.inr (.inl f))) => .inr (.inr (.inr (.inl f)))
  | .inr (.inr (.inr (.inr f))) => .inr (.inr (.inr (.inr (fun j => (f j).map (fun a => B + a))))))
def im_rc (B b : Nat) (tys : List (ClassId × FieldType)) (x : im_C) : va_E := match x with
  | .inl q => .inl (im_tc tys q.1, im_ra B q.2)
  | .inr q => .inr (q.1, q.2.map (im_rv B b))
/-- a cell of which something is said: an array, or an object of a listed class -/
def im_lv (cl : List vw_C) (x : im_C) : Prop := match x with
  | .inl _ => True
  | .inr q => q.1 < cl.length
def im_W (D : va_G) (cl : List vw_C) (tys : List (ClassId × FieldType)) (B b : Nat) (h : im_H) (H : Heap) : Prop := H.size = B + h.length ∧ ∀ (k : Nat) (x : im_C), h[k]? = some x → im_lv cl x → va_at D cl (B + k, im_rc B b tys x) H
theorem im_W.set {D : va_G} {cl : List vw_C} {tys : List (ClassId × FieldType)} {B b : Nat} {h : im_H} {H H1 : Heap} (hW : im_W D cl tys B b h H) {k : Nat} {x : im_C} (hx : im_lv cl x → va_at D cl (B + k, im_rc B b tys x) H1) (hz : H1.size = H.size) (ho : ∀ q : Nat, q ≠ B + k → H1[q]? = H[q]?) : im_W D cl tys B b (h.set k x) H1 := by
  refine ⟨by rw [hz, hW.1, List.length_set], fun j y hj hlv => ?_⟩
  by_cases hjk : j = k
  · subst hjk
    have hl : j < h.length := by
      have := (List.getElem?_eq_some_iff.mp hj).1
      rwa [List.length_set] at this
    rw [List.getElem?_set_self hl] at hj
    cases hj
    exact hx hlv
  · rw [List.getElem?_set_ne (fun q => hjk q.symm)] at hj
    exact (hW.2 j y hj hlv).kept (ho _ (by show B + j ≠ B + k; omega))
theorem im_W.push {D : va_G} {cl : List vw_C} {tys : List (ClassId × FieldType)} {B b : Nat} {h : im_H} {H H1 : Heap} (hW : im_W D cl tys B b h H) {x : im_C} (hx : im_lv cl x → va_at D cl (B + h.length, im_rc B b tys x) H1) (hz : H1.size = H.size + 1) (ho : ∀ q : Nat, q < H.size → H1[q]? = H[q]?) : im_W D cl tys B b (h ++ [x]) H1 := by
  refine ⟨by rw [hz, hW.1, List.length_append]; rfl, fun j y hj hlv => ?_⟩
  by_cases hjk : j < h.length
  · rw [List.getElem?_append_left hjk] at hj
    exact (hW.2 j y hj hlv).kept (ho _ (by have := hW.1; show B + j < H.size; omega))
  · have hl := (List.getElem?_eq_some_iff.mp hj).1
    rw [List.length_append, List.length_singleton] at hl
    have : j = h.length := by omega
    subst this
    rw [List.getElem?_append_right (Nat.le_refl _), Nat.sub_self] at hj
    cases hj
    exact hx hlv
theorem im_lvo {cl : List vw_C} {ci : Nat} {r : vw_C} {fs : List Value} (h : cl[ci]? = some r) : im_lv cl (.inr (ci, fs)) := (List.getElem?_eq_some_iff.mp h).1
theorem im_rv_cat (B b : Nat) (v : Value) : (im_rv B b v).category = v.category := by cases v <;> rfl
theorem im_rv_cats (B b : Nat) (r : List Value) : ((r.map (im_rv B b)).map fun v => v.category) = r.map fun v => v.category := by
  rw [List.map_map]
  apply List.map_congr_left
  intro v _
  exact im_rv_cat B b v
/-! locals -/
def im_Lr (B b : Nat) (ls : Array Slot) (L : im_L) : Prop := lv_has ls L.length [] ∧ ∀ (i : Nat) (v : Value), L[i]? = some (some v) → ls[i]? = some (.val (im_rv B b v))
def im_pr (B b : Nat) (L : im_L) : List (Nat × Value) := (List.range L.length).filterMap (fun i => match L[i]? with
  | some (some v) => some (i, im_rv B b v)
  | _ => none)
theorem im_pr_mem {B b : Nat} {L : im_L} {i : Nat} {v : Value} (h : L[i]? = some (some v)) : (i, im_rv B b v) ∈ im_pr B b L := by
  refine List.mem_filterMap.mpr ⟨i, List.mem_range.mpr (List.getElem?_eq_some_iff.mp h).1, ?_⟩
  rw [h]
theorem im_pr_of {B b : Nat} {L : im_L} {q : Nat × Value} (h : q ∈ im_pr B b L) : ∃ v, L[q.1]? = some (some v) ∧ q.2 = im_rv B b v := by
  obtain ⟨i, -, hi⟩ := List.mem_filterMap.mp h
  cases hL : L[i]? with
  | none => rw [hL] at hi; cases hi
  | some o =>
    cases o with
    | none => rw [hL] at hi; cases hi
    | some v =>
      rw [hL] at hi
      cases hi
      exact ⟨v, hL, rfl⟩
theorem im_Lr.has {B b : Nat} {ls : Array Slot} {L : im_L} (h : im_Lr B b ls L) : lv_has ls L.length (im_pr B b L) := by
  refine ⟨h.1.1, h.1.2.1, fun q hq => ?_⟩
  obtain ⟨v, h1, h2⟩ := im_pr_of hq
  rw [h2]
  exact h.2 _ _ h1
theorem im_p2_of {L : im_L} {i j : Nat} {v : Value} (hp : ¬ im_p2 L i = true) (hj : L[j]? = some (some v)) (hji : j + 1 = i) : ¬ v.category = 2 := by
  subst hji
  intro hc
  apply hp
  unfold im_p2
  cases v <;> simp_all [Value.category]
theorem im_s1_some {L L' : im_L} {i : Nat} {v : Value} (h : im_s1 L i v = some L') : i < L.length ∧ ¬ im_p2 L i = true ∧ L' = L.set i (some v) := by
  unfold im_s1 at h
  by_cases h1 : i < L.length
  · rw [if_pos h1] at h
    by_cases h2 : im_p2 L i = true
    · rw [if_pos h2] at h; cases h
    · rw [if_neg h2] at h
      cases h
      exact ⟨h1, h2, rfl⟩
  · rw [if_neg h1] at h; cases h
theorem im_s2_some {L L' : im_L} {i : Nat} {v : Value} (h : im_s2 L i v = some L') : i + 1 < L.length ∧ ¬ im_p2 L i = true ∧ L' = (L.set i (some v)).set (i + 1) none := by
  unfold im_s2 at h
  by_cases h1 : i + 1 < L.length
  · rw [if_pos h1] at h
    by_cases h2 : im_p2 L i = true
    · rw [if_pos h2] at h; cases h
    · rw [if_neg h2] at h
      cases h
      exact ⟨h1, h2, rfl⟩
  · rw [if_neg h1] at h; cases h
theorem im_Lr.s1 {B b : Nat} {ls' : Array Slot} {L L' : im_L} {i : Nat} {v : Value} {lv' : List (Nat × Value)} (hs : im_s1 L i v = some L') (hl : (i, im_rv B b v) :: (im_pr B b L).filter (fun q => !(q.1 == i) && !(q.1 + 1 == i && q.2.category == 2)) = lv') (h : lv_has ls' L.length lv') : im_Lr B b ls' L' := by
  obtain ⟨h1, h2, rfl⟩ := im_s1_some hs
  subst hl
  refine ⟨⟨by rw [List.length_set]; exact h.1, h.2.1, fun q hq => by cases hq⟩, fun j w hj => ?_⟩
  by_cases hji : j = i
  · subst hji
    rw [List.getElem?_set_self h1] at hj
    cases hj
    exact h.2.2 _ List.mem_cons_self
  · rw [List.getElem?_set_ne (fun q => hji q.symm)] at hj
    refine h.2.2 (j, im_rv B b w) (List.mem_cons_of_mem _ (List.mem_filter.mpr ⟨im_pr_mem hj, ?_⟩))
    by_cases hq : j + 1 = i
    · have := im_p2_of h2 hj hq
      simp [hji, im_rv_cat, this]
    · simp [hji, hq]
theorem im_Lr.s2 {B b : Nat} {ls' : Array Slot} {L L' : im_L} {i : Nat} {v : Value} {lv' : List (Nat × Value)} (hs : im_s2 L i v = some L') (hl : (i, im_rv B b v) :: (im_pr B b L).filter (fun q => !(q.1 == i) && (!(q.1 == i + 1) && !(q.1 + 1 == i && q.2.category == 2))) = lv') (h : lv_has ls' L.length lv') : im_Lr B b ls' L' := by
  obtain ⟨h1, h2, rfl⟩ := im_s2_some hs
  subst hl
  refine ⟨⟨by rw [List.length_set, List.length_set]; exact h.1, h.2.1, fun q hq => by cases hq⟩, fun j w hj => ?_⟩
  by_cases hj1 : j = i + 1
  · subst hj1
    rw [List.getElem?_set_self (by rw [List.length_set]; exact h1)] at hj
    cases hj
  · rw [List.getElem?_set_ne (fun q => hj1 q.symm)] at hj
    by_cases hji : j = i
    · subst hji
      rw [List.getElem?_set_self (by omega)] at hj
      cases hj
      exact h.2.2 _ List.mem_cons_self
    · rw [List.getElem?_set_ne (fun q => hji q.symm)] at hj
      refine h.2.2 (j, im_rv B b w) (List.mem_cons_of_mem _ (List.mem_filter.mpr ⟨im_pr_mem hj, ?_⟩))
      by_cases hq : j + 1 = i
      · have := im_p2_of h2 hj hq
        simp [hji, hj1, im_rv_cat, this]
      · simp [hji, hj1, hq]
/-! growth: cells and slots never become fewer -/
def im_sc (x : im_C) : Nat := match x with
  | .inl q => q.2.1
  | .inr q => q.2.length
def im_sz (h : im_H) : Nat := (h.map im_sc).sum
theorem im_sz_push (h : im_H) (x : im_C) : im_sz (h ++ [x]) = im_sz h + im_sc x := by simp [im_sz]
theorem im_sz_set {h : im_H} {k : Nat} {x y : im_C} (hk : h[k]? = some x) (hs : im_sc y = im_sc x) : im_sz (h.set k y) = im_sz h := by
  unfold im_sz
  congr 1
  apply List.ext_getElem?
  intro j
  rw [List.getElem?_map, List.getElem?_map]
  by_cases hj : j = k
  · subst hj
    rw [List.getElem?_set_self (List.getElem?_eq_some_iff.mp hk).1, hk]
    simp [hs]
  · rw [List.getElem?_set_ne (fun q => hj q.symm)]
def im_Up (h h' : im_H) : Prop := h.length ≤ h'.length ∧ im_sz h ≤ im_sz h'
theorem im_Up.rf (h : im_H) : im_Up h h := ⟨Nat.le_refl _, Nat.le_refl _⟩
theorem im_Up.tr {a b c : im_H} (h : im_Up a b) (k : im_Up b c) : im_Up a c := ⟨Nat.le_trans h.1 k.1, Nat.le_trans h.2 k.2⟩
