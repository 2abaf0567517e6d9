/-! NEW EDITIONS, MAPS, FIELDS -/
def nW (v0 v1 v2 v3 v4 : Int32) : Nat → Int32 := fun w => match w with
  | 0 => v0
  | 1 => v1
  | 2 => v2
  | 3 => v3
  | 4 => v4
  | 5 => 1
  | _ => 0
theorem c_192 (d : Nat) (g : im_H) (v0 v1 v2 v3 v4 : Int32) (Q : Option Value → im_H → Prop) (k : Q none (g ++ [.inr (3, cF (nW v0 v1 v2 v3 v4) 0 0 .null (-1))])) : gC (gD (d + 2)) 192 [.ref g.length, .int v0, .int v1, .int v2, .int v3, .int v4] (g ++ [.inr (3, (tb_F 3).map defaultValue)]) Q := by
  refine gC.of (q := me_192.2) rfl (Nat.le_of_ble_eq_true rfl) rfl ?_
  refine gG.step (cd := cd_192) rfl (fun _ => rfl) ?_
  refine gG.inv rfl (fun _ => rfl) (Nat.le_of_ble_eq_true rfl) rfl rfl (Nat.le_of_ble_eq_true rfl) ?_
  refine gC.nat rfl rfl ?_
  show gG _ _ _ _ 4 _ [] (g ++ .inr (3, (tb_F 3).map defaultValue) :: []) Q
  iterate 2 refine gG.step rfl (fun _ => rfl) ?_
  refine gG.put rfl ap_at (Nat.le_of_ble_eq_true rfl) rfl rfl ?_
  rw [ap_set]
  iterate 2 refine gG.step rfl (fun _ => rfl) ?_
  refine gG.put rfl ap_at (Nat.le_of_ble_eq_true rfl) rfl rfl ?_
  rw [ap_set]
  iterate 2 refine gG.step rfl (fun _ => rfl) ?_
  refine gG.put rfl ap_at (Nat.le_of_ble_eq_true rfl) rfl rfl ?_
  rw [ap_set]
  iterate 2 refine gG.step rfl (fun _ => rfl) ?_
  refine gG.put rfl ap_at (Nat.le_of_ble_eq_true rfl) rfl rfl ?_
  rw [ap_set]
  iterate 2 refine gG.step rfl (fun _ => rfl) ?_
  refine gG.put rfl ap_at (Nat.le_of_ble_eq_true rfl) rfl rfl ?_
  rw [ap_set]
  iterate 2 refine gG.step rfl (fun _ => rfl) ?_
  refine gG.put rfl ap_at (Nat.le_of_ble_eq_true rfl) rfl rfl ?_
  rw [ap_set]
  iterate 2 refine gG.step rfl (fun _ => rfl) ?_
  refine gG.put rfl ap_at (Nat.le_of_ble_eq_true rfl) rfl rfl ?_
  rw [ap_set]
  iterate 4 refine gG.step rfl (fun _ => rfl) ?_
  refine gG.put rfl ap_at (Nat.le_of_ble_eq_true rfl) rfl rfl ?_
  rw [ap_set]
  have e : cF (nW v0 v1 v2 v3 v4) 0 0 .null (-1) = [.int v0, .int v1, .int v2, .int v3, .int v4, .int 0, .int 1, .int (v3 + 1), .int 0, .int 0, .int 0, .int 0, .int 0, .int 0, .int 0, .null, .int (-1)] := by
    unfold cF
    have : (nW v0 v1 v2 v3 v4 3 + 1) * nW v0 v1 v2 v3 v4 5 = v3 + 1 := Int32.mul_one _
    rw [this]
    rfl
  rw [e] at k
  exact gG.done rfl (fun _ => rfl) (k)
/-- an object's array of objects is made and put -/
theorem gG.nputr {T : im_T} {call : Nat → im_F} {ret : Option FieldType} {cd : List (Nat × im_X)} {pc : Nat} {L : im_L} {st : List Value} {Q : Option Value → im_H → Prop} {g r : im_H} {ci k idx i2 cj n j a2 : Nat} {fs : List Value} {ty : FieldType} {v : Int32}
    (hf : im_f cd pc = some (.anewarray i2, cj, a2)) (hf2 : im_f cd (pc + 3) = some (.putfield idx, ci, k)) (hk : k < fs.length) (hty : (T.1 ci)[k]? = some ty) (hfit : ∀ o, im_fit ty (.ref o) = true) (hn : v.toNatClampNeg = n) (hv : ¬ v < 0) (hv2 : ¬ 536870912 < n * 8) (hj : g.length + (r.length + 1) = j)
    (kk : gG T call ret cd (pc + 6) L st (g ++ .inr (ci, fs.set k (.ref j)) :: (r ++ [.inl (3 + cj, n, .inr (.inr (.inr (.inr (fun _ => none)))))])) Q) : gG T call ret cd pc L (.int v :: .ref g.length :: st) (g ++ .inr (ci, fs) :: r) Q := by
  subst hj
  refine gG.step (L' := L) (st' := .ref (g ++ .inr (ci, fs) :: r).length :: .ref g.length :: st) (h' := g ++ .inr (ci, fs) :: (r ++ [.inl (3 + cj, n, .inr (.inr (.inr (.inr (fun _ => none)))))])) (pc' := pc + 3) hf (fun m => ?_) ?_
  · show im_newr cj (pc + 3) L (.int v :: .ref g.length :: st) (g ++ .inr (ci, fs) :: r) = _
    simp only [im_newr, if_neg hv, hn, if_neg hv2]
    unfold im_go
    rw [List.append_assoc]
    rfl
  · refine gG.put hf2 ap_at hk hty (hfit _) ?_
    rw [ap_set, ap_ln]
    exact kk
def nArr (ci n : Nat) : im_C := .inl (3 + ci, n, .inr (.inr (.inr (.inr (fun _ => none)))))
theorem c_128 (d : Nat) (g : im_H) (Q : Option Value → im_H → Prop) (k : Q none (g ++ [.inr (2, [.ref (g.length + 1), .int 0]), nArr 6 8])) : gC (gD (d + 2)) 128 [.ref g.length] (g ++ [.inr (2, (tb_F 2).map defaultValue)]) Q := by
  refine gC.of (q := me_128.2) rfl (Nat.le_of_ble_eq_true rfl) rfl ?_
  refine gG.step (cd := cd_128) rfl (fun _ => rfl) ?_
  refine gG.inv rfl (fun _ => rfl) (Nat.le_of_ble_eq_true rfl) rfl rfl (Nat.le_of_ble_eq_true rfl) ?_
  refine gC.nat rfl rfl ?_
  show gG _ _ _ _ 4 _ [] (g ++ .inr (2, (tb_F 2).map defaultValue) :: []) Q
  iterate 2 refine gG.step rfl (fun _ => rfl) ?_
  refine gG.nputr (n := 8) (j := g.length + 1) rfl rfl (Nat.le_of_ble_eq_true rfl) rfl (fun _ => rfl) rfl (by decide) (by decide) rfl ?_
  exact gG.done rfl (fun _ => rfl) (k)
theorem c_384 (d : Nat) (g : im_H) (v0 v1 v2 : Int32) (Q : Option Value → im_H → Prop) (k : Q none (g ++ [.inr (6, [.int v0, .int v1, .int v2, .ref (g.length + 1), .int 0, .int 0, .int 0]), nArr 3 30])) : gC (gD (d + 2)) 384 [.ref g.length, .int v0, .int v1, .int v2] (g ++ [.inr (6, (tb_F 6).map defaultValue)]) Q := by
  refine gC.of (q := me_384.2) rfl (Nat.le_of_ble_eq_true rfl) rfl ?_
  refine gG.step (cd := cd_384) rfl (fun _ => rfl) ?_
  refine gG.inv rfl (fun _ => rfl) (Nat.le_of_ble_eq_true rfl) rfl rfl (Nat.le_of_ble_eq_true rfl) ?_
  refine gC.nat rfl rfl ?_
  show gG _ _ _ _ 4 _ [] (g ++ .inr (6, (tb_F 6).map defaultValue) :: []) Q
  iterate 2 refine gG.step rfl (fun _ => rfl) ?_
  refine gG.nputr (n := 30) (j := g.length + 1) rfl rfl (Nat.le_of_ble_eq_true rfl) rfl (fun _ => rfl) rfl (by decide) (by decide) rfl ?_
  iterate 2 refine gG.step rfl (fun _ => rfl) ?_
  refine gG.put rfl ap_at (Nat.le_of_ble_eq_true rfl) rfl rfl ?_
  rw [ap_set]
  iterate 2 refine gG.step rfl (fun _ => rfl) ?_
  refine gG.put rfl ap_at (Nat.le_of_ble_eq_true rfl) rfl rfl ?_
  rw [ap_set]
  iterate 2 refine gG.step rfl (fun _ => rfl) ?_
  refine gG.put rfl ap_at (Nat.le_of_ble_eq_true rfl) rfl rfl ?_
  rw [ap_set]
  exact gG.done rfl (fun _ => rfl) (k)
/-- hasFieldNumbers -/
theorem c_5 (d : Nat) {V : Prop} {A : Bk} {N n m : Nat} {h : im_H} {s : Nat → Int32} {t : Nat → Nat → Int32} {g : Nat → Int32} {w fr' q' : Int32} (hD : DI s t) (hR : DR V A N n h s t) (hm : mLast s t = some m) (hL : LN h g w fr' q') (hg : ∀ j, j < 5 → g j = t 9 j) (Q : Option Value → im_H → Prop) (k : Q (some (.int (bI (decide (t 9 0 ≤ 99 ∧ (1 ≤ t 9 1 ∧ t 9 1 ≤ t 5 m) ∧ (1 ≤ t 9 2 ∧ t 9 2 ≤ t 6 m) ∧ ((if t 9 0 ≤ 0 then 0 else 1) ≤ t 9 3 ∧ t 9 3 ≤ 80) ∧ t 9 4 ≤ 15))))) h) : gC (gD (d + 3)) 5 [.ref 5] h Q := by
  obtain ⟨hM, hNm, hmp, lt, o1, o2, h5, edc, rv⟩ := hR.map hD hm
  have hL' := hL
  obtain ⟨⟨v1, v2, v4, h6⟩, h7⟩ := hL
  have pos : ∀ j, j < 5 → 0 ≤ t 9 j := fun j hj => by
    have p := hD.2.2 j (by omega)
    rw [p.1]
    exact nI_pos' (by have := p.2; omega)
  have hle0 : t 9 0 ≤ 0 ↔ t 9 0 = 0 := ⟨fun z => Int32.le_antisymm z (pos 0 (by decide)), fun z => by rw [z]; decide⟩
  have no : ∀ x1 : Option Value, ¬ (t 9 0 ≤ 99 ∧ (1 ≤ t 9 1 ∧ t 9 1 ≤ t 5 m) ∧ (1 ≤ t 9 2 ∧ t 9 2 ≤ t 6 m) ∧ ((if t 9 0 ≤ 0 then 0 else 1) ≤ t 9 3 ∧ t 9 3 ≤ 80) ∧ t 9 4 ≤ 15) → gG tb_T (gD (d + 2)) (some .boolean) cd_5 102 [some (.ref 5), x1] [] h Q := by
    intro x1 hn
    rw [decide_eq_false hn] at k
    refine gG.step rfl (fun _ => rfl) ?_
    exact gG.done rfl (fun _ => rfl) (k)
  have at17 : ∀ ls : Int32, (if t 9 0 ≤ 0 then (0 : Int32) else 1) = ls → gG tb_T (gD (d + 2)) (some .boolean) cd_5 17 [some (.ref 5), none] [.int ls] h Q := by
    intro ls hls
    rw [hls] at k no
    refine gG.step (L' := [some (.ref 5), some (.int ls)]) rfl (fun _ => rfl) ?_
    refine gG.step rfl (fun _ => rfl) ?_
    refine gG.get rfl (h5) rfl ?_
    iterate 3 refine gG.step rfl (fun _ => rfl) ?_
    refine gG.vir rfl (h6) rfl rfl (Nat.le_of_ble_eq_true rfl) rfl rfl (Nat.le_of_ble_eq_true rfl) ?_
    refine c_322 d (j := 0) hL' (by decide) _ ?_
    rw [hg 0 (by decide)]
    show gG _ _ _ _ 29 _ [Value.int (bI (decide (0 ≤ t 9 0 ∧ t 9 0 ≤ 99)))] h Q
    by_cases c0 : t 9 0 ≤ 99
    case neg =>
      rw [decide_eq_false (fun z => c0 z.2)]
      refine gG.ifc (tgt := 102) rfl rfl (fun _ => no _ (fun z => c0 z.1)) (fun c => absurd (by decide) c)
    case pos =>
    rw [decide_eq_true ⟨pos 0 (by decide), c0⟩]
    refine gG.ifc (tgt := 102) rfl rfl (fun c => absurd c (by decide)) (fun _ => ?_)
    refine gG.step rfl (fun _ => rfl) ?_
    refine gG.get rfl (h5) rfl ?_
    iterate 3 refine gG.step rfl (fun _ => rfl) ?_
    refine gG.get rfl (h5) rfl ?_
    refine gG.get rfl (hmp.2.1) rfl ?_
    refine gG.vir rfl (h6) rfl rfl (Nat.le_of_ble_eq_true rfl) rfl rfl (Nat.le_of_ble_eq_true rfl) ?_
    refine c_322 d (j := 1) hL' (by decide) _ ?_
    rw [hg 1 (by decide)]
    show gG _ _ _ _ 48 _ [Value.int (bI (decide (1 ≤ t 9 1 ∧ t 9 1 ≤ t 5 m)))] h Q
    by_cases c1 : 1 ≤ t 9 1 ∧ t 9 1 ≤ t 5 m
    case neg =>
      rw [decide_eq_false c1]
      refine gG.ifc (tgt := 102) rfl rfl (fun _ => no _ (fun z => c1 z.2.1)) (fun c => absurd (by decide) c)
    case pos =>
    rw [decide_eq_true c1]
    refine gG.ifc (tgt := 102) rfl rfl (fun c => absurd c (by decide)) (fun _ => ?_)
    refine gG.step rfl (fun _ => rfl) ?_
    refine gG.get rfl (h5) rfl ?_
    iterate 3 refine gG.step rfl (fun _ => rfl) ?_
    refine gG.get rfl (h5) rfl ?_
    refine gG.get rfl (hmp.2.1) rfl ?_
    refine gG.vir rfl (h6) rfl rfl (Nat.le_of_ble_eq_true rfl) rfl rfl (Nat.le_of_ble_eq_true rfl) ?_
    refine c_322 d (j := 2) hL' (by decide) _ ?_
    rw [hg 2 (by decide)]
    show gG _ _ _ _ 67 _ [Value.int (bI (decide (1 ≤ t 9 2 ∧ t 9 2 ≤ t 6 m)))] h Q
    by_cases c2 : 1 ≤ t 9 2 ∧ t 9 2 ≤ t 6 m
    case neg =>
      rw [decide_eq_false c2]
      refine gG.ifc (tgt := 102) rfl rfl (fun _ => no _ (fun z => c2 z.2.2.1)) (fun c => absurd (by decide) c)
    case pos =>
    rw [decide_eq_true c2]
    refine gG.ifc (tgt := 102) rfl rfl (fun c => absurd c (by decide)) (fun _ => ?_)
    refine gG.step rfl (fun _ => rfl) ?_
    refine gG.get rfl (h5) rfl ?_
    iterate 3 refine gG.step rfl (fun _ => rfl) ?_
    refine gG.vir rfl (h6) rfl rfl (Nat.le_of_ble_eq_true rfl) rfl rfl (Nat.le_of_ble_eq_true rfl) ?_
    refine c_322 d (j := 3) hL' (by decide) _ ?_
    rw [hg 3 (by decide)]
    show gG _ _ _ _ 81 _ [Value.int (bI (decide (ls ≤ t 9 3 ∧ t 9 3 ≤ 80)))] h Q
    by_cases c3 : ls ≤ t 9 3 ∧ t 9 3 ≤ 80
    case neg =>
      rw [decide_eq_false c3]
      refine gG.ifc (tgt := 102) rfl rfl (fun _ => no _ (fun z => c3 z.2.2.2.1)) (fun c => absurd (by decide) c)
    case pos =>
    rw [decide_eq_true c3]
    refine gG.ifc (tgt := 102) rfl rfl (fun c => absurd c (by decide)) (fun _ => ?_)
    refine gG.step rfl (fun _ => rfl) ?_
    refine gG.get rfl (h5) rfl ?_
    iterate 3 refine gG.step rfl (fun _ => rfl) ?_
    refine gG.vir rfl (h6) rfl rfl (Nat.le_of_ble_eq_true rfl) rfl rfl (Nat.le_of_ble_eq_true rfl) ?_
    refine c_322 d (j := 4) hL' (by decide) _ ?_
    rw [hg 4 (by decide)]
    show gG _ _ _ _ 95 _ [Value.int (bI (decide (0 ≤ t 9 4 ∧ t 9 4 ≤ 15)))] h Q
    by_cases c4 : t 9 4 ≤ 15
    case neg =>
      rw [decide_eq_false (fun z => c4 z.2)]
      refine gG.ifc (tgt := 102) rfl rfl (fun _ => no _ (fun z => c4 z.2.2.2.2)) (fun c => absurd (by decide) c)
    case pos =>
    rw [decide_eq_true ⟨pos 4 (by decide), c4⟩]
    refine gG.ifc (tgt := 102) rfl rfl (fun c => absurd c (by decide)) (fun _ => ?_)
    rw [decide_eq_true ⟨c0, c1, c2, c3, c4⟩] at k
    refine gG.step rfl (fun _ => rfl) ?_
    refine gG.goto (tgt := 103) rfl rfl ?_
    exact gG.done rfl (fun _ => rfl) (k)
  refine gC.of (q := me_5.2) rfl (Nat.le_of_ble_eq_true rfl) rfl ?_
  refine gG.step (cd := cd_5) rfl (fun _ => rfl) ?_
  refine gG.get rfl (h5) rfl ?_
  refine gG.get rfl (h6) rfl ?_
  refine gG.step rfl (fun _ => rfl) ?_
  refine gG.iald (j := 0) rfl h7 rfl (by decide) (by decide) ?_
  rw [hg 0 (by decide)]
  by_cases hz : t 9 0 = 0
  · refine gG.ifc (tgt := 16) rfl rfl (fun c => absurd hz (c_ne.mp c)) (fun _ => ?_)
    refine gG.step rfl (fun _ => rfl) ?_
    refine gG.goto (tgt := 17) rfl rfl ?_
    exact at17 0 (if_pos (hle0.mpr hz))
  · refine gG.ifc (tgt := 16) rfl rfl (fun _ => ?_) (fun c => absurd (c_ne.mpr hz) c)
    refine gG.step rfl (fun _ => rfl) ?_
    exact at17 1 (if_neg (fun z => hz (hle0.mp z)))
