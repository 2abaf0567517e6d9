/-! A NEW OBJECT -/
def bArr (n : Nat) : im_C := .inl (1, n, .inl (fun _ => 0))
theorem c_320 (d : Nat) (g : im_H) (Q : Option Value → im_H → Prop) (k : Q none (g ++ [.inr (5, [.ref (g.length + 1), .int 0, .int 0, .int 0, .int 0, .int 0, .int 0]), .inl (0, 5, .inl (fun _ => 0))])) : gC (gD (d + 2)) 320 [.ref g.length] (g ++ [.inr (5, (tb_F 5).map defaultValue)]) Q := by
  refine gC.of (q := me_320.2) rfl (Nat.le_of_ble_eq_true rfl) rfl ?_
  refine gG.step (cd := cd_320) rfl (fun _ => rfl) ?_
  refine gG.inv rfl (fun _ => rfl) (Nat.le_of_ble_eq_true rfl) rfl rfl (Nat.le_of_ble_eq_true rfl) ?_
  refine gC.nat rfl rfl ?_
  show gG _ _ _ _ 4 _ [] (g ++ .inr (5, (tb_F 5).map defaultValue) :: []) Q
  iterate 2 refine gG.step rfl (fun _ => rfl) ?_
  refine gG.nput (n := 5) (j := g.length + 1) rfl rfl (Nat.le_of_ble_eq_true rfl) rfl (fun _ => rfl) rfl rfl (by decide) (by decide) rfl ?_
  exact gG.done rfl (fun _ => rfl) (k)
theorem c_64 (d : Nat) (g : im_H) (Q : Option Value → im_H → Prop) (k : Q none (g ++ [.inr (1, [.ref (g.length + 1), .int 0]), bArr 80])) : gC (gD (d + 2)) 64 [.ref g.length] (g ++ [.inr (1, (tb_F 1).map defaultValue)]) Q := by
  refine gC.of (q := me_64.2) rfl (Nat.le_of_ble_eq_true rfl) rfl ?_
  refine gG.step (cd := cd_64) rfl (fun _ => rfl) ?_
  refine gG.inv rfl (fun _ => rfl) (Nat.le_of_ble_eq_true rfl) rfl rfl (Nat.le_of_ble_eq_true rfl) ?_
  refine gC.nat rfl rfl ?_
  show gG _ _ _ _ 4 _ [] (g ++ .inr (1, (tb_F 1).map defaultValue) :: []) Q
  iterate 2 refine gG.step rfl (fun _ => rfl) ?_
  refine gG.nput (n := 80) (j := g.length + 1) rfl rfl (Nat.le_of_ble_eq_true rfl) rfl (fun _ => rfl) rfl rfl (by decide) (by decide) rfl ?_
  exact gG.done rfl (fun _ => rfl) (k)
theorem c_256 (d : Nat) (h : im_H) (o : Nat) (Q : Option Value → im_H → Prop) (k : Q none h) : gC (gD (d + 2)) 256 [.ref o] h Q := by
  refine gC.of (q := me_256.2) rfl (Nat.le_of_ble_eq_true rfl) rfl ?_
  refine gG.step (cd := cd_256) rfl (fun _ => rfl) ?_
  refine gG.inv rfl (fun _ => rfl) (Nat.le_of_ble_eq_true rfl) rfl rfl (Nat.le_of_ble_eq_true rfl) ?_
  refine gC.nat rfl rfl ?_
  exact gG.done rfl (fun _ => rfl) (k)
theorem c_0 (d : Nat) (g : im_H) (Q : Option Value → im_H → Prop) (k : Q none (g ++ [.inr (0, [.ref (g.length + 1), .null, .null, .null, .int (-1), .int (-1)]), .inr (5, [.ref (g.length + 2), .int 0, .int 0, .int 0, .int 0, .int 0, .int 0]), .inl (0, 5, .inl (fun _ => 0))])) : gC (gD (d + 3)) 0 [.ref g.length] (g ++ [.inr (0, (tb_F 0).map defaultValue)]) Q := by
  have hl : (g ++ [Sum.inr (0, (tb_F 0).map defaultValue)] : im_H).length = g.length + 1 := by rw [List.length_append]; rfl
  refine gC.of (q := me_0.2) rfl (Nat.le_of_ble_eq_true rfl) rfl ?_
  refine gG.step (cd := cd_0) rfl (fun _ => rfl) ?_
  refine gG.inv rfl (fun _ => rfl) (Nat.le_of_ble_eq_true rfl) rfl rfl (Nat.le_of_ble_eq_true rfl) ?_
  refine gC.nat rfl rfl ?_
  show gG _ _ _ _ 4 _ [] (g ++ [.inr (0, (tb_F 0).map defaultValue)]) Q
  refine gG.step rfl (fun _ => rfl) ?_
  refine gG.step (pc' := 8) (st' := [.ref (g ++ [Sum.inr (0, (tb_F 0).map defaultValue)] : im_H).length, .ref g.length]) (h' := (g ++ [.inr (0, (tb_F 0).map defaultValue)]) ++ [.inr (5, (tb_F 5).map defaultValue)]) rfl (fun _ => rfl) ?_
  refine gG.step rfl (fun _ => rfl) ?_
  refine gG.inv rfl (fun _ => rfl) (Nat.le_of_ble_eq_true rfl) rfl rfl (Nat.le_of_ble_eq_true rfl) ?_
  refine c_320 d (g ++ [.inr (0, (tb_F 0).map defaultValue)]) _ ?_
  show gG _ _ _ _ 12 _ [.ref (g ++ [Sum.inr (0, (tb_F 0).map defaultValue)] : im_H).length, .ref g.length] ((g ++ [.inr (0, (tb_F 0).map defaultValue)]) ++ [.inr (5, [.ref ((g ++ [Sum.inr (0, (tb_F 0).map defaultValue)] : im_H).length + 1), .int 0, .int 0, .int 0, .int 0, .int 0, .int 0]), .inl (0, 5, .inl (fun _ => 0))]) Q
  rw [hl, List.append_assoc]
  show gG _ _ _ _ 12 _ [.ref (g.length + 1), .ref g.length] (g ++ .inr (0, [.null, .null, .null, .null, .int 0, .int 0]) :: [.inr (5, [.ref (g.length + 2), .int 0, .int 0, .int 0, .int 0, .int 0, .int 0]), .inl (0, 5, .inl (fun _ => 0))]) Q
  refine gG.put rfl ap_at (Nat.le_of_ble_eq_true rfl) rfl rfl ?_
  rw [ap_set]
  iterate 2 refine gG.step rfl (fun _ => rfl) ?_
  refine gG.put rfl ap_at (Nat.le_of_ble_eq_true rfl) rfl rfl ?_
  rw [ap_set]
  iterate 2 refine gG.step rfl (fun _ => rfl) ?_
  refine gG.put rfl ap_at (Nat.le_of_ble_eq_true rfl) rfl rfl ?_
  rw [ap_set]
  exact gG.done rfl (fun _ => rfl) (k)
def cNew : im_H := [.inr (7, [.ref 1, .int 0, .ref 2, .int 0, .ref 3, .ref 5, .int 0, .int 0, .ref 8, .ref 10]), bArr 3000, nArr 2 6, .inr (2, [.ref 4, .int 0]), nArr 6 8, .inr (0, [.ref 6, .null, .null, .null, .int (-1), .int (-1)]), .inr (5, [.ref 7, .int 0, .int 0, .int 0, .int 0, .int 0, .int 0]), .inl (0, 5, .inl (fun _ => 0)), .inr (1, [.ref 9, .int 0]), bArr 80, .inr (4, [.null, .int 0, .int 0, .int 0, .int 0, .int 0, .int 0, .int 0])]
theorem c_448 (d : Nat) (Q : Option Value → im_H → Prop) (k : Q none cNew) : gC (gD (d + 4)) 448 [.ref 0] [.inr (7, (tb_F 7).map defaultValue)] Q := by
  refine gC.of (q := me_448.2) rfl (Nat.le_of_ble_eq_true rfl) rfl ?_
  refine gG.step (cd := cd_448) rfl (fun _ => rfl) ?_
  refine gG.inv rfl (fun _ => rfl) (Nat.le_of_ble_eq_true rfl) rfl rfl (Nat.le_of_ble_eq_true rfl) ?_
  refine gC.nat rfl rfl ?_
  show gG _ _ _ _ 4 _ [] ([] ++ .inr (7, (tb_F 7).map defaultValue) :: []) Q
  iterate 2 refine gG.step rfl (fun _ => rfl) ?_
  refine gG.nput (g := []) (n := 3000) (j := 1) rfl rfl (Nat.le_of_ble_eq_true rfl) rfl (fun _ => rfl) rfl rfl (by decide) (by decide) rfl ?_
  iterate 2 refine gG.step rfl (fun _ => rfl) ?_
  refine gG.nputr (g := []) (n := 6) (j := 2) rfl rfl (Nat.le_of_ble_eq_true rfl) rfl (fun _ => rfl) rfl (by decide) (by decide) rfl ?_
  show gG _ _ _ _ 22 _ [] [.inr (7, [.ref 1, .int 0, .ref 2, .int 0, .null, .null, .int 0, .int 0, .null, .null]), bArr 3000, nArr 2 6] Q
  refine gG.step rfl (fun _ => rfl) ?_
  refine gG.step (pc' := 26) (st' := [.ref 3, .ref 0]) (h' := [.inr (7, [.ref 1, .int 0, .ref 2, .int 0, .null, .null, .int 0, .int 0, .null, .null]), bArr 3000, nArr 2 6] ++ [.inr (2, (tb_F 2).map defaultValue)]) rfl (fun _ => rfl) ?_
  refine gG.step rfl (fun _ => rfl) ?_
  refine gG.inv rfl (fun _ => rfl) (Nat.le_of_ble_eq_true rfl) rfl rfl (Nat.le_of_ble_eq_true rfl) ?_
  refine c_128 (d + 1) [.inr (7, [.ref 1, .int 0, .ref 2, .int 0, .null, .null, .int 0, .int 0, .null, .null]), bArr 3000, nArr 2 6] _ ?_
  show gG _ _ _ _ 30 _ [.ref 3, .ref 0] [.inr (7, [.ref 1, .int 0, .ref 2, .int 0, .null, .null, .int 0, .int 0, .null, .null]), bArr 3000, nArr 2 6, .inr (2, [.ref 4, .int 0]), nArr 6 8] Q
  refine gG.put rfl (show _ = some (Sum.inr (7, [.ref 1, .int 0, .ref 2, .int 0, .null, .null, .int 0, .int 0, .null, .null])) from rfl) (Nat.le_of_ble_eq_true rfl) rfl rfl ?_
  show gG _ _ _ _ 33 _ [] [.inr (7, [.ref 1, .int 0, .ref 2, .int 0, .ref 3, .null, .int 0, .int 0, .null, .null]), bArr 3000, nArr 2 6, .inr (2, [.ref 4, .int 0]), nArr 6 8] Q
  refine gG.step rfl (fun _ => rfl) ?_
  refine gG.step (pc' := 37) (st' := [.ref 5, .ref 0]) (h' := [.inr (7, [.ref 1, .int 0, .ref 2, .int 0, .ref 3, .null, .int 0, .int 0, .null, .null]), bArr 3000, nArr 2 6, .inr (2, [.ref 4, .int 0]), nArr 6 8] ++ [.inr (0, (tb_F 0).map defaultValue)]) rfl (fun _ => rfl) ?_
  refine gG.step rfl (fun _ => rfl) ?_
  refine gG.inv rfl (fun _ => rfl) (Nat.le_of_ble_eq_true rfl) rfl rfl (Nat.le_of_ble_eq_true rfl) ?_
  refine c_0 d [.inr (7, [.ref 1, .int 0, .ref 2, .int 0, .ref 3, .null, .int 0, .int 0, .null, .null]), bArr 3000, nArr 2 6, .inr (2, [.ref 4, .int 0]), nArr 6 8] _ ?_
  show gG _ _ _ _ 41 _ [.ref 5, .ref 0] [.inr (7, [.ref 1, .int 0, .ref 2, .int 0, .ref 3, .null, .int 0, .int 0, .null, .null]), bArr 3000, nArr 2 6, .inr (2, [.ref 4, .int 0]), nArr 6 8, .inr (0, [.ref 6, .null, .null, .null, .int (-1), .int (-1)]), .inr (5, [.ref 7, .int 0, .int 0, .int 0, .int 0, .int 0, .int 0]), .inl (0, 5, .inl (fun _ => 0))] Q
  refine gG.put rfl (show _ = some (Sum.inr (7, [.ref 1, .int 0, .ref 2, .int 0, .ref 3, .null, .int 0, .int 0, .null, .null])) from rfl) (Nat.le_of_ble_eq_true rfl) rfl rfl ?_
  show gG _ _ _ _ 44 _ [] [.inr (7, [.ref 1, .int 0, .ref 2, .int 0, .ref 3, .ref 5, .int 0, .int 0, .null, .null]), bArr 3000, nArr 2 6, .inr (2, [.ref 4, .int 0]), nArr 6 8, .inr (0, [.ref 6, .null, .null, .null, .int (-1), .int (-1)]), .inr (5, [.ref 7, .int 0, .int 0, .int 0, .int 0, .int 0, .int 0]), .inl (0, 5, .inl (fun _ => 0))] Q
  refine gG.step rfl (fun _ => rfl) ?_
  refine gG.step (pc' := 48) (st' := [.ref 8, .ref 0]) (h' := [.inr (7, [.ref 1, .int 0, .ref 2, .int 0, .ref 3, .ref 5, .int 0, .int 0, .null, .null]), bArr 3000, nArr 2 6, .inr (2, [.ref 4, .int 0]), nArr 6 8, .inr (0, [.ref 6, .null, .null, .null, .int (-1), .int (-1)]), .inr (5, [.ref 7, .int 0, .int 0, .int 0, .int 0, .int 0, .int 0]), .inl (0, 5, .inl (fun _ => 0))] ++ [.inr (1, (tb_F 1).map defaultValue)]) rfl (fun _ => rfl) ?_
  refine gG.step rfl (fun _ => rfl) ?_
  refine gG.inv rfl (fun _ => rfl) (Nat.le_of_ble_eq_true rfl) rfl rfl (Nat.le_of_ble_eq_true rfl) ?_
  refine c_64 (d + 1) [.inr (7, [.ref 1, .int 0, .ref 2, .int 0, .ref 3, .ref 5, .int 0, .int 0, .null, .null]), bArr 3000, nArr 2 6, .inr (2, [.ref 4, .int 0]), nArr 6 8, .inr (0, [.ref 6, .null, .null, .null, .int (-1), .int (-1)]), .inr (5, [.ref 7, .int 0, .int 0, .int 0, .int 0, .int 0, .int 0]), .inl (0, 5, .inl (fun _ => 0))] _ ?_
  show gG _ _ _ _ 52 _ [.ref 8, .ref 0] [.inr (7, [.ref 1, .int 0, .ref 2, .int 0, .ref 3, .ref 5, .int 0, .int 0, .null, .null]), bArr 3000, nArr 2 6, .inr (2, [.ref 4, .int 0]), nArr 6 8, .inr (0, [.ref 6, .null, .null, .null, .int (-1), .int (-1)]), .inr (5, [.ref 7, .int 0, .int 0, .int 0, .int 0, .int 0, .int 0]), .inl (0, 5, .inl (fun _ => 0)), .inr (1, [.ref 9, .int 0]), bArr 80] Q
  refine gG.put rfl (show _ = some (Sum.inr (7, [.ref 1, .int 0, .ref 2, .int 0, .ref 3, .ref 5, .int 0, .int 0, .null, .null])) from rfl) (Nat.le_of_ble_eq_true rfl) rfl rfl ?_
  show gG _ _ _ _ 55 _ [] [.inr (7, [.ref 1, .int 0, .ref 2, .int 0, .ref 3, .ref 5, .int 0, .int 0, .ref 8, .null]), bArr 3000, nArr 2 6, .inr (2, [.ref 4, .int 0]), nArr 6 8, .inr (0, [.ref 6, .null, .null, .null, .int (-1), .int (-1)]), .inr (5, [.ref 7, .int 0, .int 0, .int 0, .int 0, .int 0, .int 0]), .inl (0, 5, .inl (fun _ => 0)), .inr (1, [.ref 9, .int 0]), bArr 80] Q
  refine gG.step rfl (fun _ => rfl) ?_
  refine gG.step (pc' := 59) (st' := [.ref 10, .ref 0]) (h' := [.inr (7, [.ref 1, .int 0, .ref 2, .int 0, .ref 3, .ref 5, .int 0, .int 0, .ref 8, .null]), bArr 3000, nArr 2 6, .inr (2, [.ref 4, .int 0]), nArr 6 8, .inr (0, [.ref 6, .null, .null, .null, .int (-1), .int (-1)]), .inr (5, [.ref 7, .int 0, .int 0, .int 0, .int 0, .int 0, .int 0]), .inl (0, 5, .inl (fun _ => 0)), .inr (1, [.ref 9, .int 0]), bArr 80, .inr (4, [.null, .int 0, .int 0, .int 0, .int 0, .int 0, .int 0, .int 0])]) rfl (fun _ => rfl) ?_
  refine gG.step rfl (fun _ => rfl) ?_
  refine gG.inv rfl (fun _ => rfl) (Nat.le_of_ble_eq_true rfl) rfl rfl (Nat.le_of_ble_eq_true rfl) ?_
  refine c_256 (d + 1) _ 10 _ ?_
  refine gG.put rfl (show _ = some (Sum.inr (7, [.ref 1, .int 0, .ref 2, .int 0, .ref 3, .ref 5, .int 0, .int 0, .ref 8, .null])) from rfl) (Nat.le_of_ble_eq_true rfl) rfl rfl ?_
  exact gG.done rfl (fun _ => rfl) (k)
