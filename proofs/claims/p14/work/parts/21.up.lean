def im_hp (q : im_R) : im_H := match q with
  | .inl z => z.2.2.2
  | .inr z => z.2
theorem im_go_some {pc : Nat} {L : im_L} {st : List Value} {h : im_H} {q : im_R} (hs : im_go pc L st h = some q) : q = .inl (pc, L, st, h) := (Option.some.inj hs).symm
theorem im_go_up {pc : Nat} {L : im_L} {st : List Value} {h : im_H} {q : im_R} (hs : im_go pc L st h = some q) : im_Up h (im_hp q) := by
  rw [im_go_some hs]; exact im_Up.rf h
theorem im_jmp_up {pc : Nat} {off : Int} {L : im_L} {st : List Value} {h : im_H} {q : im_R} (hs : im_jmp pc off L st h = some q) : im_Up h (im_hp q) := by
  unfold im_jmp at hs
  split at hs
  · exact im_go_up hs
  · cases hs
theorem im_load_up {L : im_L} {i pc : Nat} {st : List Value} {h : im_H} {k : Nat} {q : im_R} (hs : im_load L i pc st h k = some q) : im_Up h (im_hp q) := by
  unfold im_load at hs
  split at hs <;> first | exact im_go_up hs | cases hs
theorem im_store_up {L : im_L} {i pc : Nat} {st : List Value} {h : im_H} {k : Nat} {q : im_R} (hs : im_store L i pc st h k = some q) : im_Up h (im_hp q) := by
  unfold im_store at hs
  split at hs <;> first | (obtain ⟨L', -, h2⟩ := Option.bind_eq_some_iff.mp hs; exact im_go_up h2) | cases hs
theorem im_get_up {ci k pc : Nat} {L : im_L} {st : List Value} {h : im_H} {q : im_R} (hs : im_get ci k pc L st h = some q) : im_Up h (im_hp q) := by
  unfold im_get at hs
  split at hs
  · split at hs
    · split at hs
      · obtain ⟨v, -, h2⟩ := Option.bind_eq_some_iff.mp hs
        exact im_go_up h2
      · cases hs
    · cases hs
  · cases hs
theorem im_putf_up {T : im_T} {ci k pc : Nat} {L : im_L} {st : List Value} {h : im_H} {q : im_R} (hs : im_putf T ci k pc L st h = some q) : im_Up h (im_hp q) := by
  unfold im_putf at hs
  split at hs
  · split at hs
    · rename_i hx
      split at hs
      · split at hs
        · obtain ⟨ty, -, h2⟩ := Option.bind_eq_some_iff.mp hs
          split at h2
          · rw [im_go_some h2]
            exact ⟨by show _ ≤ (List.set _ _ _).length; rw [List.length_set]; exact Nat.le_refl _, by show _ ≤ im_sz (List.set _ _ _); rw [im_sz_set hx (by simp [im_sc])]; exact Nat.le_refl _⟩
          · cases h2
        · cases hs
      · cases hs
    · cases hs
  · cases hs
theorem im_aldi_up {T : im_T} {tk pc : Nat} {L : im_L} {st : List Value} {h : im_H} {q : im_R} (hs : im_aldi T tk pc L st h = some q) : im_Up h (im_hp q) := by
  unfold im_aldi at hs
  split at hs
  · split at hs
    · split at hs
      · split at hs
        · cases hs
        · exact im_go_up hs
      · cases hs
    · cases hs
  · split at hs
    · obtain ⟨z, -, h2⟩ := Option.bind_eq_some_iff.mp hs
      split at h2
      · cases h2
      · exact im_go_up h2
    · cases hs
  · cases hs
theorem im_aldl_up {pc : Nat} {L : im_L} {st : List Value} {h : im_H} {q : im_R} (hs : im_aldl pc L st h = some q) : im_Up h (im_hp q) := by
  unfold im_aldl at hs
  split at hs
  · split at hs
    · split at hs
      · split at hs
        · cases hs
        · exact im_go_up hs
      · cases hs
    · cases hs
  · cases hs
theorem im_aldr_up {ci pc : Nat} {L : im_L} {st : List Value} {h : im_H} {q : im_R} (hs : im_aldr ci pc L st h = some q) : im_Up h (im_hp q) := by
  unfold im_aldr at hs
  split at hs
  · split at hs
    · split at hs
      · split at hs
        · cases hs
        · exact im_go_up hs
      · cases hs
    · cases hs
  · cases hs
theorem im_set_up {h : im_H} {o : Nat} {x y : im_C} (hx : h[o]? = some x) (hy : im_sc y = im_sc x) : im_Up h (h.set o y) :=
  ⟨by rw [List.length_set]; exact Nat.le_refl _, by rw [im_sz_set hx hy]; exact Nat.le_refl _⟩
theorem im_asti_up {tk pc : Nat} {L : im_L} {st : List Value} {h : im_H} {q : im_R} (hs : im_asti tk pc L st h = some q) : im_Up h (im_hp q) := by
  unfold im_asti at hs
  split at hs
  · split at hs
    · rename_i hx
      split at hs
      · split at hs
        · cases hs
        · rw [im_go_some hs]
          exact im_set_up hx rfl
      · cases hs
    · cases hs
  · cases hs
theorem im_astl_up {pc : Nat} {L : im_L} {st : List Value} {h : im_H} {q : im_R} (hs : im_astl pc L st h = some q) : im_Up h (im_hp q) := by
  unfold im_astl at hs
  split at hs
  · split at hs
    · rename_i hx
      split at hs
      · split at hs
        · cases hs
        · rw [im_go_some hs]
          exact im_set_up hx rfl
      · cases hs
    · cases hs
  · cases hs
theorem im_astr_up {ck pc : Nat} {L : im_L} {st : List Value} {h : im_H} {q : im_R} (hs : im_astr ck pc L st h = some q) : im_Up h (im_hp q) := by
  unfold im_astr at hs
  split at hs
  · split at hs
    · rename_i hx hv
      split at hs
      · split at hs
        · cases hs
        · rw [im_go_some hs]
          exact im_set_up hx rfl
      · cases hs
    · cases hs
  · cases hs
theorem im_alen_up {T : im_T} {tk pc : Nat} {L : im_L} {st : List Value} {h : im_H} {q : im_R} (hs : im_alen T tk pc L st h = some q) : im_Up h (im_hp q) := by
  unfold im_alen at hs
  split at hs
  · split at hs
    · split at hs
      · exact im_go_up hs
      · cases hs
    · cases hs
  · obtain ⟨z, -, h2⟩ := Option.bind_eq_some_iff.mp hs
    exact im_go_up h2
  · cases hs
theorem im_push_up (h : im_H) (x : im_C) : im_Up h (h ++ [x]) :=
  ⟨by rw [List.length_append]; exact Nat.le_add_right _ _, by rw [im_sz_push]; exact Nat.le_add_right _ _⟩
theorem im_newo_up {T : im_T} {ci pc : Nat} {L : im_L} {st : List Value} {h : im_H} {q : im_R} (hs : im_newo T ci pc L st h = some q) : im_Up h (im_hp q) := by
  rw [im_go_some hs]
  exact im_push_up _ _
theorem im_newa_up {ty : FieldType} {tk pc : Nat} {L : im_L} {st : List Value} {h : im_H} {q : im_R} (hs : im_newa ty tk pc L st h = some q) : im_Up h (im_hp q) := by
  unfold im_newa at hs
  split at hs
  · split at hs
    · cases hs
    · split at hs
      · cases hs
      · obtain ⟨x, -, h2⟩ := Option.bind_eq_some_iff.mp hs
        rw [im_go_some h2]
        exact im_push_up _ _
  · cases hs
theorem im_newr_up {ci pc : Nat} {L : im_L} {st : List Value} {h : im_H} {q : im_R} (hs : im_newr ci pc L st h = some q) : im_Up h (im_hp q) := by
  unfold im_newr at hs
  split at hs
  · split at hs
    · cases hs
    · split at hs
      · cases hs
      · rw [im_go_some hs]
        exact im_push_up _ _
  · cases hs
theorem im_inv_some {call : im_F} {y n pc : Nat} {L : im_L} {st : List Value} {h : im_H} {q : im_R} (hs : im_inv call y n pc L st h = some q) : n ≤ st.length ∧ ((st.drop n).map fun v => v.category).sum ≤ 8 ∧ ∃ r h', call y (st.take n).reverse h = some (r, h') ∧ q = .inl (pc, L, r.toList ++ st.drop n, h') := by
  unfold im_inv at hs
  split at hs
  · rename_i h1
    split at hs
    · rename_i h2
      obtain ⟨z, h3, h4⟩ := Option.bind_eq_some_iff.mp hs
      exact ⟨h1, h2, z.1, z.2, h3, im_go_some h4⟩
    · cases hs
  · cases hs
def im_Cup (call : im_F) : Prop := ∀ y vs h r h', call y vs h = some (r, h') → im_Up h h'
theorem im_inv_up {call : im_F} (hc : im_Cup call) {y n pc : Nat} {L : im_L} {st : List Value} {h : im_H} {q : im_R} (hs : im_inv call y n pc L st h = some q) : im_Up h (im_hp q) := by
  obtain ⟨-, -, r, h', h1, rfl⟩ := im_inv_some hs
  exact hc _ _ _ _ _ h1
theorem im_ret_up {ret : Option FieldType} {st : List Value} {h : im_H} {q : im_R} (hs : im_ret ret st h = some q) : im_Up h (im_hp q) := by
  unfold im_ret at hs
  split at hs
  · split at hs
    · split at hs
      · cases hs; exact im_Up.rf h
      · cases hs
    · cases hs
  · cases hs
set_option maxHeartbeats 4000000 in
theorem im_step_up {T : im_T} {call : im_F} (hc : im_Cup call) {ret : Option FieldType} {x : im_X} {pc : Nat} {L : im_L} {st : List Value} {h : im_H} {q : im_R} (hs : im_step T call ret x pc L st h = some q) : im_Up h (im_hp q) := by
  unfold im_step at hs
  split at hs
  all_goals first
    | exact im_go_up hs
    | exact im_load_up hs
    | exact im_store_up hs
    | exact im_jmp_up hs
    | exact im_get_up hs
    | exact im_putf_up hs
    | exact im_aldi_up hs
    | exact im_aldl_up hs
    | exact im_aldr_up hs
    | exact im_asti_up hs
    | exact im_astl_up hs
    | exact im_astr_up hs
    | exact im_alen_up hs
    | exact im_newo_up hs
    | exact im_newa_up hs
    | exact im_newr_up hs
    | exact im_inv_up hc hs
    | exact im_ret_up hs
    | (cases hs; done)
    | (split at hs <;> first | exact im_inv_up hc hs | exact im_go_up hs | exact im_jmp_up hs | (cases hs; done) | (obtain ⟨z, -, h2⟩ := Option.bind_eq_some_iff.mp hs; first | exact im_go_up h2 | exact im_jmp_up h2) | (split at hs <;> first | exact im_go_up hs | exact im_jmp_up hs | (cases hs; exact im_Up.rf h) | (cases hs; done)) | (cases hs; exact im_Up.rf h))
theorem im_run_up {T : im_T} {call : im_F} (hc : im_Cup call) {ret : Option FieldType} {cd : List (Nat × im_X)} : ∀ (n pc : Nat) (L : im_L) (st : List Value) (h : im_H) (r : Option Value) (h' : im_H), im_run T call ret cd n pc L st h = some (r, h') → im_Up h h'
  | 0, _, _, _, _, _, _, hs => by cases hs
  | n + 1, pc, L, st, h, r, h', hs => by
    rw [im_run] at hs
    obtain ⟨x, -, h2⟩ := Option.bind_eq_some_iff.mp hs
    obtain ⟨q, h3, h4⟩ := Option.bind_eq_some_iff.mp h2
    have hu := im_step_up hc h3
    split at h4
    · exact hu.tr (im_run_up hc n _ _ _ _ _ _ h4)
    · cases h4
      exact hu
theorem im_exec_up {T : im_T} {M : Nat → Option im_M} {nat : im_F} (hn : im_Cup nat) : ∀ (d n : Nat), im_Cup (im_exec T M nat d n)
  | 0, _ => fun _ _ _ _ _ hs => by cases hs
  | d + 1, n => fun y vs h r h' hs => by
    rw [im_exec] at hs
    split at hs
    · split at hs
      · exact im_run_up (im_exec_up hn d n) _ _ _ _ _ _ _ hs
      · cases hs
    · exact hn _ _ _ _ _ hs
