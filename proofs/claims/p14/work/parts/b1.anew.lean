/-! A DRAFT ANEW -/
def bE (A : Bk) (e o : Nat) : Bk := (fun e' => if e' = e then o else A.1 e', A.2)
theorem c_1 (d : Nat) {V : Prop} {A : Bk} {n : Nat} {h : im_H} {s : Nat → Int32} {t : Nat → Nat → Int32} {ed mp lt : Value} {o1 o2 : Int32} {Q : Option Value → im_H → Prop} (h25 : 25 ≤ h.length) (h5 : h[5]? = some (.inr (0, [.ref 6, ed, mp, lt, .int o1, .int o2]))) (hL : CL h) (h1 : h[1]? = some (.inl (1, 3000, .inl (t 1)))) (h3 : t 3 (nv (s 10)) = 0) (h13 : s 13 = -1) (h14 : s 14 = -1)
    (k : ∀ h', (∀ k, k ≠ 5 → k < h.length → h'[k]? = h[k]?) → h'.length = h.length + 2 → im_sz h' = im_sz h + 10 → DR V (bE A (nv (s 10)) h.length) h.length n h' s t → Q none h') : gC (gD (d + 3)) 1 [.ref 5] h Q := by
  have ap : ∀ (x : im_H) (k : Nat), k < h.length → (h ++ x)[k]? = h[k]? := fun x k hk => List.getElem?_append_left hk
  refine gC.of (q := me_1.2) rfl (Nat.le_of_ble_eq_true rfl) rfl ?_
  refine gG.step (cd := cd_1) rfl (fun _ => rfl) ?_
  refine gG.step (pc' := 4) (st' := [.ref h.length, .ref 5]) (h' := h ++ [.inr (2, (tb_F 2).map defaultValue)]) rfl (fun _ => rfl) ?_
  refine gG.step rfl (fun _ => rfl) ?_
  refine gG.inv rfl (fun _ => rfl) (Nat.le_of_ble_eq_true rfl) rfl rfl (Nat.le_of_ble_eq_true rfl) ?_
  refine c_128 d h _ ?_
  show gG _ _ _ _ 8 _ [Value.ref h.length, Value.ref 5] (h ++ [.inr (2, [.ref (h.length + 1), .int 0]), nArr 6 8]) Q
  obtain ⟨H, hH⟩ : ∃ H : im_H, H = h ++ [.inr (2, [.ref (h.length + 1), .int 0]), nArr 6 8] := ⟨_, rfl⟩
  have q0 : ∀ k, k < h.length → H[k]? = h[k]? := fun k hk => by rw [hH]; exact ap _ _ hk
  have qn : H[h.length]? = some (.inr (2, [.ref (h.length + 1), .int 0])) := by rw [hH]; exact ap_at
  have qn1 : H[h.length + 1]? = some (nArr 6 8) := by
    rw [hH, List.getElem?_append_right (by omega), show h.length + 1 - h.length = 1 by omega]
    rfl
  have ql : H.length = h.length + 2 := by rw [hH, List.length_append]; rfl
  have qz : im_sz H = im_sz h + 10 := by
    rw [hH, show h ++ [.inr (2, [.ref (h.length + 1), .int 0]), nArr 6 8] = (h ++ [.inr (2, [.ref (h.length + 1), .int 0])]) ++ [nArr 6 8] by simp, im_sz_push, im_sz_push]
    rfl
  rw [← hH]
  clear hH
  have q5 : H[5]? = some (.inr (0, [.ref 6, ed, mp, lt, .int o1, .int o2])) := by rw [q0 5 (by omega)]; exact h5
  refine gG.put (k := 1) rfl q5 (Nat.le_of_ble_eq_true rfl) rfl rfl ?_
  iterate 2 refine gG.step rfl (fun _ => rfl) ?_
  refine gG.put (k := 2) rfl (set_at q5) (Nat.le_of_ble_eq_true rfl) rfl rfl ?_
  rw [List.set_set]
  iterate 2 refine gG.step rfl (fun _ => rfl) ?_
  refine gG.put (k := 3) rfl (set_at q5) (Nat.le_of_ble_eq_true rfl) rfl rfl ?_
  rw [List.set_set]
  iterate 2 refine gG.step rfl (fun _ => rfl) ?_
  refine gG.put (k := 4) rfl (set_at q5) (Nat.le_of_ble_eq_true rfl) rfl rfl ?_
  rw [List.set_set]
  iterate 2 refine gG.step rfl (fun _ => rfl) ?_
  refine gG.put (k := 5) rfl (set_at q5) (Nat.le_of_ble_eq_true rfl) rfl rfl ?_
  rw [List.set_set]
  have hb : (bE A (nv (s 10)) h.length).1 (nv (s 10)) = h.length := if_pos rfl
  have hl0 : mLast s t = none := by unfold mLast; rw [if_pos h3]
  have hf0 : lastF s t = none := by unfold lastF; rw [hl0]
  have n0 : ∀ k : Nat, ¬ k < nv (t 3 (nv (s 10))) := by
    intro k hk
    rw [h3] at hk
    exact absurd hk (Nat.not_lt_zero _)
  obtain ⟨⟨b1, b2, w, c, f, q, r6⟩, ⟨g7, r7⟩⟩ := hL
  refine gG.done rfl (fun _ => rfl) (k _ (fun k hk hkl => ?_) ?_ ?_ ⟨h25, ⟨-1, -1, ?_, fun _ => ⟨h13.symm, h14.symm⟩⟩, ⟨⟨b1, b2, w, c, f, q, ?_⟩, ⟨g7, ?_⟩⟩, ?_, ⟨?_, ⟨fun _ => none, ?_, fun k hk => absurd hk (n0 k)⟩, fun k hk => absurd hk (n0 k)⟩, ?_⟩)
  · rw [set_ne hk]; exact q0 k hkl
  · rw [List.length_set]; exact ql
  · refine (im_sz_set q5 ?_).trans qz
    rfl
  · rw [set_at q5]
    unfold dC
    rw [hl0, hf0, hb]
    rfl
  · rw [set_ne (by decide), q0 6 (by omega)]; exact r6
  · rw [set_ne (by decide), q0 7 (by omega)]; exact r7
  · rw [set_ne (by decide), q0 1 (by omega)]; exact h1
  · rw [hb, set_ne (by omega), qn, h3]
  · rw [hb, set_ne (by omega)]; exact qn1
  · exact ⟨by rw [hb]; exact Nat.le_refl _, fun k hk => absurd hk (n0 k), fun k k' hk => absurd hk (n0 k), fun k k' f f' hk => absurd hk (n0 k)⟩
