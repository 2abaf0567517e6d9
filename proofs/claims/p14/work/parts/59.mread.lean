section GO4
variable {T : im_T} {call : Nat → im_F} {ret : Option FieldType} {cd : List (Nat × im_X)} {pc : Nat} {L : im_L} {st : List Value} {h : im_H} {Q : Option Value → im_H → Prop}
theorem gG.irem {x y : Int32} {a1 a2 : Nat} (hf : im_f cd pc = some (.irem, a1, a2)) (hne : ¬ y = 0) (k : gG T call ret cd (pc + 1) L (.int (x - x / y * y) :: st) h Q) : gG T call ret cd pc L (.int y :: .int x :: st) h Q := by
  refine gG.step hf (fun _ => ?_) k
  show (im_bin .irem x y).bind _ = _
  unfold im_bin
  dsimp only
  rw [if_neg hne]
  rfl
theorem gG.lrem {x y : Int64} {a1 a2 : Nat} (hf : im_f cd pc = some (.lrem, a1, a2)) (hne : ¬ y = 0) (k : gG T call ret cd (pc + 1) L (.long (x - x / y * y) :: st) h Q) : gG T call ret cd pc L (.long y :: .long x :: st) h Q := by
  refine gG.step hf (fun _ => ?_) k
  show (im_lbin .lrem x y).bind _ = _
  unfold im_lbin
  dsimp only
  rw [if_neg hne]
  rfl
theorem gG.ldiv {x y : Int64} {a1 a2 : Nat} (hf : im_f cd pc = some (.ldiv, a1, a2)) (hne : ¬ y = 0) (k : gG T call ret cd (pc + 1) L (.long (x / y) :: st) h Q) : gG T call ret cd pc L (.long y :: .long x :: st) h Q := by
  refine gG.step hf (fun _ => ?_) k
  show (im_lbin .ldiv x y).bind _ = _
  unfold im_lbin
  dsimp only
  rw [if_neg hne]
  rfl
end GO4
/-- the place of a column in a field's time -/
def mCol (t : Nat → Nat → Int32) (m f : Nat) (col : Int32) : Int32 := (col - t 8 (fI m f 2)) - (col - t 8 (fI m f 2)) / (t 8 (fI m f 3) + 1) * (t 8 (fI m f 3) + 1) - 1
def mScreen (s : Nat → Int32) (t : Nat → Nat → Int32) (map row col : Int32) : Int32 := match mHandO s t map with
  | none => -1
  | some m => if 1 ≤ row ∧ row ≤ t 5 m then (if 1 ≤ col ∧ col ≤ t 6 m then (match mOvrO t m (-1) row col (col + 1) with
      | none => 32
      | some f => if t 8 (fI m f 4) &&& 8 ≤ 0 then (if 0 ≤ mCol t m f col ∧ mCol t m f col ≤ t 8 (fI m f 13) - 1 then t 2 (nv (t 8 (fI m f 12)) + nv (mCol t m f col)) else 32) else 32) else -1) else -1
theorem mOvrO_some {t : Nat → Nat → Int32} {m f : Nat} {but row lo hi : Int32} (h : mOvrO t m but row lo hi = some f) : f < nv (t 7 m) ∧ mOvrP t m but row lo hi f = true := by
  obtain ⟨-, h2, h3⟩ := sr_some h
  rw [Nat.zero_add] at h2
  exact ⟨h2, h3⟩
theorem m_541 (d : Nat) {b : Nat} {h0 h : im_H} {s : Nat → Int32} {t : Nat → Nat → Int32} (hM : MM b h0 h s t) (hI : MI s t) {map row col : Int32} (Q : Option Value → im_H → Prop) (k : ∀ h', MM b h0 h' (upd s 0 0) t → Q (some (.int (mScreen s t map row col))) h') : gC (gD (d + 3)) 541 [.ref b, .int map, .int row, .int col] h Q := by
  refine gC.of (q := me_541.2) rfl (Nat.le_of_ble_eq_true rfl) rfl ?_
  iterate 2 refine gG.step (cd := cd_541) rfl (fun _ => rfl) ?_
  refine mPut hM rfl (by decide) rfl rfl rfl (fun h hM => ?_)
  have k := k h hM
  have hI : MI (upd s 0 0) t := hI
  iterate 2 refine gG.step rfl (fun _ => rfl) ?_
  refine mVir hM rfl rfl rfl (Nat.le_of_ble_eq_true rfl) rfl rfl (Nat.le_of_ble_eq_true rfl) ?_
  refine m_535' d hM hI _ ?_
  show gG _ _ _ _ 10 _ [Value.int (oI (mHandO s t map))] h Q
  unfold mScreen at k
  cases ho : mHandO s t map with
  | none =>
    rw [ho] at k
    iterate 2 refine gG.step rfl (fun _ => rfl) ?_
    refine gG.ifc (tgt := 47) rfl rfl (fun _ => ?_) (fun c => absurd (by decide) c)
    refine gG.step rfl (fun _ => rfl) ?_
    exact gG.done rfl (fun _ => rfl) (k)
  | some m =>
    rw [ho] at k
    dsimp only at k
    obtain ⟨hm, hmi, -⟩ := mHandO_some (s := upd s 0 0) hI ho
    have hn := hmi.2.2.2.1
    refine gG.step (L' := [some (.ref b), some (.int map), some (.int row), some (.int col), some (.int (nI m)), none, none]) rfl (fun _ => rfl) ?_
    refine gG.step rfl (fun _ => rfl) ?_
    refine gG.ifc (tgt := 47) rfl rfl (fun c => absurd c (c_ltn (by omega))) (fun _ => ?_)
    iterate 3 refine gG.step rfl (fun _ => rfl) ?_
    refine mGet hM rfl rfl ?_
    refine gG.step rfl (fun _ => rfl) ?_
    refine mAld (j := 5) (n := m) hM rfl (by decide) (by decide) rfl (show m < 48 from hm) ?_
    refine gG.inv rfl (fun _ => rfl) (Nat.le_of_ble_eq_true rfl) rfl rfl (Nat.le_of_ble_eq_true rfl) ?_
    refine m_514 (d + 1) _ _ _ _ _ ?_
    show gG _ _ _ _ 29 _ [Value.int (bI (decide (1 ≤ row ∧ row ≤ t 5 m)))] h Q
    by_cases h1 : 1 ≤ row ∧ row ≤ t 5 m
    · rw [if_pos h1] at k
      rw [decide_eq_true h1]
      refine gG.ifc (tgt := 47) rfl rfl (fun c => absurd c (by decide)) (fun _ => ?_)
      iterate 3 refine gG.step rfl (fun _ => rfl) ?_
      refine mGet hM rfl rfl ?_
      refine gG.step rfl (fun _ => rfl) ?_
      refine mAld (j := 6) (n := m) hM rfl (by decide) (by decide) rfl (show m < 48 from hm) ?_
      refine gG.inv rfl (fun _ => rfl) (Nat.le_of_ble_eq_true rfl) rfl rfl (Nat.le_of_ble_eq_true rfl) ?_
      refine m_514 (d + 1) _ _ _ _ _ ?_
      show gG _ _ _ _ 44 _ [Value.int (bI (decide (1 ≤ col ∧ col ≤ t 6 m)))] h Q
      by_cases h2 : 1 ≤ col ∧ col ≤ t 6 m
      · rw [if_pos h2] at k
        rw [decide_eq_true h2]
        refine gG.ifc (tgt := 49) rfl rfl (fun _ => ?_) (fun c => absurd (by decide) c)
        iterate 8 refine gG.step rfl (fun _ => rfl) ?_
        refine mVir hM rfl rfl rfl (Nat.le_of_ble_eq_true rfl) rfl rfl (Nat.le_of_ble_eq_true rfl) ?_
        refine m_523' d hM hm hn _ ?_
        show gG _ _ _ _ 61 _ [Value.int (oI (mOvrO t m (-1) row col (col + 1)))] h Q
        cases hf : mOvrO t m (-1) row col (col + 1) with
        | none =>
          rw [hf] at k
          iterate 2 refine gG.step rfl (fun _ => rfl) ?_
          refine gG.ifc (tgt := 83) rfl rfl (fun _ => ?_) (fun c => absurd (by decide) c)
          refine gG.step rfl (fun _ => rfl) ?_
          exact gG.done rfl (fun _ => rfl) (k)
        | some f =>
          rw [hf] at k
          dsimp only at k
          have hf1 := (mOvrO_some hf).1
          have hf30 : f < 30 := by have := hn.2; omega
          have hfi := hmi.2.2.2.2 f hf1
          refine gG.step (L' := [some (.ref b), some (.int map), some (.int row), some (.int col), some (.int (nI m)), some (.int (nI f)), none]) rfl (fun _ => rfl) ?_
          refine gG.step rfl (fun _ => rfl) ?_
          refine gG.ifc (tgt := 83) rfl rfl (fun c => absurd c (c_ltn (by omega))) (fun _ => ?_)
          iterate 4 refine gG.step rfl (fun _ => rfl) ?_
          refine mVir hM rfl rfl rfl (Nat.le_of_ble_eq_true rfl) rfl rfl (Nat.le_of_ble_eq_true rfl) ?_
          refine m_519 (d + 1) hM hm hf30 (show 4 < 14 by decide) _ ?_
          show gG _ _ _ _ 77 _ [Value.int (t 8 (fI m f 4))] h Q
          iterate 2 refine gG.step rfl (fun _ => rfl) ?_
          refine gG.ifc (tgt := 86) rfl rfl (fun c => ?_) (fun c => ?_)
          · rw [if_pos (show t 8 (fI m f 4) &&& 8 ≤ 0 from of_decide_eq_true c)] at k
            iterate 5 refine gG.step rfl (fun _ => rfl) ?_
            refine mVir hM rfl rfl rfl (Nat.le_of_ble_eq_true rfl) rfl rfl (Nat.le_of_ble_eq_true rfl) ?_
            refine m_519 (d + 1) hM hm hf30 (show 2 < 14 by decide) _ ?_
            show gG _ _ _ _ 96 _ [Value.int (t 8 (fI m f 2)), Value.int col] h Q
            iterate 5 refine gG.step rfl (fun _ => rfl) ?_
            refine mVir hM rfl rfl rfl (Nat.le_of_ble_eq_true rfl) rfl rfl (Nat.le_of_ble_eq_true rfl) ?_
            refine m_519 (d + 1) hM hm hf30 (show 3 < 14 by decide) _ ?_
            show gG _ _ _ _ 106 _ [Value.int (t 8 (fI m f 3)), Value.int (col - t 8 (fI m f 2))] h Q
            iterate 2 refine gG.step rfl (fun _ => rfl) ?_
            have hne : ¬ t 8 (fI m f 3) + 1 = 0 := by
              have hp := hfi.1 3 (by decide)
              rw [hp.1, nI_1]
              exact nI_ne0 (by omega) (by have := hp.2; have h80 : fB 3 = 80 := rfl; omega)
            refine gG.irem rfl hne ?_
            iterate 2 refine gG.step rfl (fun _ => rfl) ?_
            refine gG.step (L' := [some (.ref b), some (.int map), some (.int row), some (.int col), some (.int (nI m)), some (.int (nI f)), some (.int (mCol t m f col))]) rfl (fun _ => rfl) ?_
            iterate 6 refine gG.step rfl (fun _ => rfl) ?_
            refine mVir hM rfl rfl rfl (Nat.le_of_ble_eq_true rfl) rfl rfl (Nat.le_of_ble_eq_true rfl) ?_
            refine m_519 (d + 1) hM hm hf30 (show 13 < 14 by decide) _ ?_
            show gG _ _ _ _ 126 _ [Value.int (t 8 (fI m f 13)), Value.int 0, Value.int (mCol t m f col)] h Q
            iterate 2 refine gG.step rfl (fun _ => rfl) ?_
            refine gG.inv rfl (fun _ => rfl) (Nat.le_of_ble_eq_true rfl) rfl rfl (Nat.le_of_ble_eq_true rfl) ?_
            refine m_514 (d + 1) _ _ _ _ _ ?_
            show gG _ _ _ _ 131 _ [Value.int (bI (decide (0 ≤ mCol t m f col ∧ mCol t m f col ≤ t 8 (fI m f 13) - 1)))] h Q
            by_cases h3 : 0 ≤ mCol t m f col ∧ mCol t m f col ≤ t 8 (fI m f 13) - 1
            · rw [if_pos h3] at k
              rw [decide_eq_true h3]
              refine gG.ifc (tgt := 155) rfl rfl (fun c => absurd c (by decide)) (fun _ => ?_)
              have p12 := hfi.1 12 (by decide)
              have p13 := hfi.1 13 (by decide)
              have b13 : fB 13 = 80 := rfl
              have b12 : fB 12 = 18000 := rfl
              have hsum := hfi.2.2.2.2.2.1
              have h3' := h3
              rw [p13.1] at h3'
              obtain ⟨j, hj, hje⟩ := wn_of (by have := p13.2; omega) h3'
              refine gG.step rfl (fun _ => rfl) ?_
              refine mGet hM rfl rfl ?_
              iterate 4 refine gG.step rfl (fun _ => rfl) ?_
              refine mVir hM rfl rfl rfl (Nat.le_of_ble_eq_true rfl) rfl rfl (Nat.le_of_ble_eq_true rfl) ?_
              refine m_519 (d + 1) hM hm hf30 (show 12 < 14 by decide) _ ?_
              show gG _ _ _ _ 148 _ [Value.int (t 8 (fI m f 12)), Value.ref (b + 2)] h Q
              iterate 2 refine gG.step rfl (fun _ => rfl) ?_
              refine mAld (j := 2) (n := nv (t 8 (fI m f 12)) + nv (mCol t m f col)) hM rfl (by decide) (by decide) ?_ ?_ ?_
              · rw [hje, nv_nI (by have := p13.2; omega), ← nI_add, ← p12.1]
              · rw [hje, nv_nI (by have := p13.2; omega)]
                show _ < 18000
                omega
              refine gG.goto (tgt := 157) rfl rfl ?_
              exact gG.done rfl (fun _ => rfl) (k)
            · rw [if_neg h3] at k
              rw [decide_eq_false h3]
              refine gG.ifc (tgt := 155) rfl rfl (fun _ => ?_) (fun c => absurd (by decide) c)
              refine gG.step rfl (fun _ => rfl) ?_
              exact gG.done rfl (fun _ => rfl) (k)
          · rw [if_neg (show ¬ t 8 (fI m f 4) &&& 8 ≤ 0 from fun z => c (decide_eq_true z))] at k
            refine gG.step rfl (fun _ => rfl) ?_
            exact gG.done rfl (fun _ => rfl) (k)
      · rw [if_neg h2] at k
        rw [decide_eq_false h2]
        refine gG.ifc (tgt := 49) rfl rfl (fun c => absurd c (by decide)) (fun _ => ?_)
        refine gG.step rfl (fun _ => rfl) ?_
        exact gG.done rfl (fun _ => rfl) (k)
    · rw [if_neg h1] at k
      rw [decide_eq_false h1]
      refine gG.ifc (tgt := 47) rfl rfl (fun _ => ?_) (fun c => absurd (by decide) c)
      refine gG.step rfl (fun _ => rfl) ?_
      exact gG.done rfl (fun _ => rfl) (k)
