/-! A NEW REFERENCE -/
theorem ap_at {g r : im_H} {x : im_C} : (g ++ x :: r)[g.length]? = some x := by
  rw [List.getElem?_append_right (Nat.le_refl _), Nat.sub_self]
  rfl
theorem ap_set {g r : im_H} {x y : im_C} : (g ++ x :: r).set g.length y = g ++ y :: r := by
  rw [List.set_append_right _ _ (Nat.le_refl _), Nat.sub_self]
  rfl
theorem ap_ln {g r : im_H} {x : im_C} : (g ++ x :: r).length = g.length + (r.length + 1) := by
  rw [List.length_append]
  rfl
/-- an object's array is made and put -/
theorem gG.nput {T : im_T} {call : Nat → im_F} {ret : Option FieldType} {cd : List (Nat × im_X)} {pc : Nat} {L : im_L} {st : List Value} {Q : Option Value → im_H → Prop} {g r : im_H} {ci k idx tk n j : Nat} {fs : List Value} {at' : ArrayType} {a2 : Nat} {ty : FieldType} {v : Int32} {x : vp_A}
    (hf : im_f cd pc = some (.newarray at', tk, a2)) (hf2 : im_f cd (pc + 2) = some (.putfield idx, ci, k)) (hk : k < fs.length) (hty : (T.1 ci)[k]? = some ty) (hfit : ∀ o, im_fit ty (.ref o) = true) (hn : v.toNatClampNeg = n) (hz : im_zero (im_nty tk) n = some x) (hv : ¬ v < 0) (hv2 : ¬ 536870912 < n * 8) (hj : g.length + (r.length + 1) = j)
    (kk : gG T call ret cd (pc + 5) L st (g ++ .inr (ci, fs.set k (.ref j)) :: (r ++ [.inl (tk, x)])) Q) : gG T call ret cd pc L (.int v :: .ref g.length :: st) (g ++ .inr (ci, fs) :: r) Q := by
  subst hj
  refine gG.step (L' := L) (st' := .ref (g ++ .inr (ci, fs) :: r).length :: .ref g.length :: st) (h' := g ++ .inr (ci, fs) :: (r ++ [.inl (tk, x)])) (pc' := pc + 2) hf (fun m => ?_) ?_
  · show im_newa (im_nty tk) tk (pc + 2) L (.int v :: .ref g.length :: st) (g ++ .inr (ci, fs) :: r) = _
    simp only [im_newa, if_neg hv, hn, if_neg hv2, hz, Option.bind]
    unfold im_go
    rw [List.append_assoc]
    rfl
  · refine gG.put hf2 ap_at hk hty (hfit _) ?_
    rw [ap_set, ap_ln]
    exact kk
def mS0 : Nat → Int32 := fun k => if k = 13 ∨ k = 14 then -1 else 0
def mArr (j : Nat) : im_C := .inl (0, mLn j, .inl (fun _ => 0))
def mAll (b : Nat) : im_H := [.inr (8, mF b mS0), mArr 1, mArr 2, mArr 3, mArr 4, mArr 5, mArr 6, mArr 7, mArr 8, mArr 9, mArr 10, mArr 11, mArr 12]
theorem m_512 (d : Nat) (g : im_H) (Q : Option Value → im_H → Prop) (k : Q none (g ++ mAll g.length)) : gC (gD (d + 2)) 512 [.ref g.length] (g ++ [.inr (8, (tb_F 8).map defaultValue)]) Q := by
  refine gC.of (q := me_512.2) rfl (Nat.le_of_ble_eq_true rfl) rfl ?_
  refine gG.step (cd := cd_512) rfl (fun _ => rfl) ?_
  refine gG.inv rfl (fun _ => rfl) (Nat.le_of_ble_eq_true rfl) rfl rfl (Nat.le_of_ble_eq_true rfl) ?_
  refine gC.nat rfl rfl ?_
  show gG _ _ _ _ 4 _ [] (g ++ .inr (8, (tb_F 8).map defaultValue) :: []) Q
  iterate 2 refine gG.step rfl (fun _ => rfl) ?_
  refine gG.nput (n := 3000) (j := g.length + 1) rfl rfl (Nat.le_of_ble_eq_true rfl) rfl (fun _ => rfl) rfl rfl (by decide) (by decide) rfl ?_
  iterate 2 refine gG.step rfl (fun _ => rfl) ?_
  refine gG.nput (n := 18000) (j := g.length + 2) rfl rfl (Nat.le_of_ble_eq_true rfl) rfl (fun _ => rfl) rfl rfl (by decide) (by decide) rfl ?_
  iterate 2 refine gG.step rfl (fun _ => rfl) ?_
  refine gG.nput (n := 7) (j := g.length + 3) rfl rfl (Nat.le_of_ble_eq_true rfl) rfl (fun _ => rfl) rfl rfl (by decide) (by decide) rfl ?_
  iterate 2 refine gG.step rfl (fun _ => rfl) ?_
  refine gG.nput (n := 48) (j := g.length + 4) rfl rfl (Nat.le_of_ble_eq_true rfl) rfl (fun _ => rfl) rfl rfl (by decide) (by decide) rfl ?_
  iterate 2 refine gG.step rfl (fun _ => rfl) ?_
  refine gG.nput (n := 48) (j := g.length + 5) rfl rfl (Nat.le_of_ble_eq_true rfl) rfl (fun _ => rfl) rfl rfl (by decide) (by decide) rfl ?_
  iterate 2 refine gG.step rfl (fun _ => rfl) ?_
  refine gG.nput (n := 48) (j := g.length + 6) rfl rfl (Nat.le_of_ble_eq_true rfl) rfl (fun _ => rfl) rfl rfl (by decide) (by decide) rfl ?_
  iterate 2 refine gG.step rfl (fun _ => rfl) ?_
  refine gG.nput (n := 48) (j := g.length + 7) rfl rfl (Nat.le_of_ble_eq_true rfl) rfl (fun _ => rfl) rfl rfl (by decide) (by decide) rfl ?_
  iterate 2 refine gG.step rfl (fun _ => rfl) ?_
  refine gG.nput (n := 20160) (j := g.length + 8) rfl rfl (Nat.le_of_ble_eq_true rfl) rfl (fun _ => rfl) rfl rfl (by decide) (by decide) rfl ?_
  iterate 2 refine gG.step rfl (fun _ => rfl) ?_
  refine gG.put rfl ap_at (Nat.le_of_ble_eq_true rfl) rfl rfl ?_
  rw [ap_set]
  iterate 2 refine gG.step rfl (fun _ => rfl) ?_
  refine gG.put rfl ap_at (Nat.le_of_ble_eq_true rfl) rfl rfl ?_
  rw [ap_set]
  iterate 2 refine gG.step rfl (fun _ => rfl) ?_
  refine gG.nput (n := 6) (j := g.length + 9) rfl rfl (Nat.le_of_ble_eq_true rfl) rfl (fun _ => rfl) rfl rfl (by decide) (by decide) rfl ?_
  iterate 2 refine gG.step rfl (fun _ => rfl) ?_
  refine gG.nput (n := 80) (j := g.length + 10) rfl rfl (Nat.le_of_ble_eq_true rfl) rfl (fun _ => rfl) rfl rfl (by decide) (by decide) rfl ?_
  iterate 2 refine gG.step rfl (fun _ => rfl) ?_
  refine gG.nput (n := 4096) (j := g.length + 11) rfl rfl (Nat.le_of_ble_eq_true rfl) rfl (fun _ => rfl) rfl rfl (by decide) (by decide) rfl ?_
  iterate 2 refine gG.step rfl (fun _ => rfl) ?_
  refine gG.nput (n := 90) (j := g.length + 12) rfl rfl (Nat.le_of_ble_eq_true rfl) rfl (fun _ => rfl) rfl rfl (by decide) (by decide) rfl ?_
  exact gG.done rfl (fun _ => rfl) (k)
theorem mAll_MM (g : im_H) (r : im_H) : MM g.length (g ++ (mAll g.length ++ r)) (g ++ (mAll g.length ++ r)) mS0 (fun _ _ => 0) := by
  refine ⟨fr.rf, ?_, fun j h1 h2 => ?_⟩
  · rw [List.getElem?_append_right (Nat.le_refl _), Nat.sub_self]
    rfl
  · rw [List.getElem?_append_right (by omega), show g.length + j - g.length = j by omega]
    have : j = 1 ∨ j = 2 ∨ j = 3 ∨ j = 4 ∨ j = 5 ∨ j = 6 ∨ j = 7 ∨ j = 8 ∨ j = 9 ∨ j = 10 ∨ j = 11 ∨ j = 12 := by omega
    rcases this with rfl | rfl | rfl | rfl | rfl | rfl | rfl | rfl | rfl | rfl | rfl | rfl <;> rfl
