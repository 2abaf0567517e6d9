theorem and8 {x : Int32} (h : ps x 15) : x &&& 8 ≤ 0 ↔ x &&& 8 = 0 := by
  obtain ⟨a, ha, rfl⟩ := ps_ex h
  have : ∀ a : Fin 16, (nI a.val &&& 8 ≤ 0 ↔ nI a.val &&& 8 = 0) := by decide
  exact this ⟨a, by omega⟩
theorem and2 {x : Int32} (h : ps x 15) : x &&& 2 ≤ 0 ↔ x &&& 2 = 0 := by
  obtain ⟨a, ha, rfl⟩ := ps_ex h
  have : ∀ a : Fin 16, (nI a.val &&& 2 ≤ 0 ↔ nI a.val &&& 2 = 0) := by decide
  exact this ⟨a, by omega⟩
theorem and1 {x : Int32} (h : ps x 15) : x &&& 1 ≤ 0 ↔ x &&& 1 = 0 := by
  obtain ⟨a, ha, rfl⟩ := ps_ex h
  have : ∀ a : Fin 16, (nI a.val &&& 1 ≤ 0 ↔ nI a.val &&& 1 = 0) := by decide
  exact this ⟨a, by omega⟩
section CQ3
variable {V : Prop} {A : Bk} {h : im_H} {s : Nat → Int32} {t : Nat → Nat → Int32} {Q : Option Value → im_H → Prop}
/-- screen -/
theorem c_454 (d : Nat) (hS : CS V A h s t) (hI : MI s t) (map row col : Int32) (k : Q (some (.int (mScreen s t map row col))) h) : gC (gD (d + 3)) 454 [.ref 0, .int map, .int row, .int col] h Q := by
  have h0 := hS.1
  obtain ⟨xa, ha⟩ := hS.hnd hI
  refine gC.of (q := me_454.2) rfl (Nat.le_of_ble_eq_true rfl) rfl ?_
  refine gG.step (cd := cd_454) rfl (fun _ => rfl) ?_
  refine gG.get rfl (h0) rfl ?_
  refine gG.step rfl (fun _ => rfl) ?_
  show gG _ _ _ _ 5 _ [Value.int map, Value.ref (hd A s)] h Q
  refine gG.vir rfl (ha) rfl rfl (Nat.le_of_ble_eq_true rfl) rfl rfl (Nat.le_of_ble_eq_true rfl) ?_
  refine c_hand (d + 1) hS hI map ?_
  show gG _ _ _ _ 8 _ [va_rf ((mHandO s t map).map A.2.1)] h Q
  unfold mScreen at k
  cases ho : mHandO s t map with
  | none =>
    rw [ho] at k
    refine gG.step rfl (fun _ => rfl) ?_
    refine gG.step rfl (fun _ => rfl) ?_
    refine gG.jmp (tgt := 41) rfl (fun _ => rfl) rfl ?_
    refine gG.step rfl (fun _ => rfl) ?_
    exact gG.done rfl (fun _ => rfl) (k)
  | some m =>
    rw [ho] at k
    dsimp only at k
    have hM := (mHandO_some hI ho).2.1
    have hm := hS.map hI ho
    have ho := hm.2.1
    obtain ⟨ga, hga, hgf⟩ := hm.2.2.1
    obtain ⟨n, hn, e7⟩ := ps_ex hM.2.2.2.1
    have e7n : nv (t 7 m) = n := by rw [e7, nv_nI (by omega)]
    rw [va_some]
    refine gG.step (L' := [some (.ref 0), some (.int map), some (.int row), some (.int col), some (.ref (A.2.1 m)), none]) rfl (fun _ => rfl) ?_
    refine gG.step rfl (fun _ => rfl) ?_
    refine gG.step rfl (fun _ => rfl) ?_
    iterate 3 refine gG.step rfl (fun _ => rfl) ?_
    refine gG.get rfl (ho) rfl ?_
    refine gG.inv rfl (fun _ => rfl) (Nat.le_of_ble_eq_true rfl) rfl rfl (Nat.le_of_ble_eq_true rfl) ?_
    refine c_466 (d + 1) _ _ _ _ _ ?_
    show gG _ _ _ _ 25 _ [Value.int (bI (decide (1 ≤ row ∧ row ≤ t 5 m)))] h Q
    by_cases h1 : 1 ≤ row ∧ row ≤ t 5 m
    case neg =>
      rw [if_neg h1] at k
      rw [decide_eq_false h1]
      refine gG.ifc (tgt := 41) rfl rfl (fun _ => ?_) (fun c => absurd (by decide) c)
      refine gG.step rfl (fun _ => rfl) ?_
      exact gG.done rfl (fun _ => rfl) (k)
    case pos =>
    rw [if_pos h1] at k
    rw [decide_eq_true h1]
    refine gG.ifc (tgt := 41) rfl rfl (fun c => absurd c (by decide)) (fun _ => ?_)
    iterate 3 refine gG.step rfl (fun _ => rfl) ?_
    refine gG.get rfl (ho) rfl ?_
    refine gG.inv rfl (fun _ => rfl) (Nat.le_of_ble_eq_true rfl) rfl rfl (Nat.le_of_ble_eq_true rfl) ?_
    refine c_466 (d + 1) _ _ _ _ _ ?_
    show gG _ _ _ _ 38 _ [Value.int (bI (decide (1 ≤ col ∧ col ≤ t 6 m)))] h Q
    by_cases h2 : 1 ≤ col ∧ col ≤ t 6 m
    case neg =>
      rw [if_neg h2] at k
      rw [decide_eq_false h2]
      refine gG.ifc (tgt := 43) rfl rfl (fun c => absurd c (by decide)) (fun _ => ?_)
      refine gG.step rfl (fun _ => rfl) ?_
      exact gG.done rfl (fun _ => rfl) (k)
    case pos =>
    rw [if_pos h2] at k
    rw [decide_eq_true h2]
    refine gG.ifc (tgt := 43) rfl rfl (fun _ => ?_) (fun c => absurd (by decide) c)
    iterate 2 refine gG.step rfl (fun _ => rfl) ?_
    refine gG.get rfl (ho) rfl ?_
    rw [e7]
    iterate 3 refine gG.step rfl (fun _ => rfl) ?_
    refine gG.vir rfl (ho) rfl rfl (Nat.le_of_ble_eq_true rfl) rfl rfl (Nat.le_of_ble_eq_true rfl) ?_
    refine c_388 d hm hM.2.2.2.1 (q := n) (by omega) row col 1 ?_
    have eo : cOvO t m n row col 1 = mOvrO t m (-1) row col (col + 1) := by
      unfold cOvO mOvrO
      rw [e7n]
      refine sr_congr (fun f _ hf => ?_)
      unfold cOv mOvrP
      have hne : ¬ nI f = -1 := by
        intro z
        have := nI_pos' (n := f) (by omega)
        rw [z] at this
        exact absurd this (by decide)
      show decide (t 8 (fI m f 1) = row ∧ t 8 (fI m f 2) < col + 1 ∧ col < t 8 (fI m f 2) + (t 8 (fI m f 3) + 1) * t 8 (fI m f 5)) = _
      congr 1
      exact propext ⟨fun z => ⟨hne, z⟩, fun z => z.2⟩
    rw [eo]
    show gG _ _ _ _ 56 _ [Value.int (oI (mOvrO t m (-1) row col (col + 1)))] h Q
    cases hf : mOvrO t m (-1) row col (col + 1) with
    | none =>
      rw [hf] at k
      refine gG.step rfl (fun _ => rfl) ?_
      iterate 2 refine gG.step rfl (fun _ => rfl) ?_
      refine gG.icmp (tgt := 69) rfl rfl (fun c => absurd rfl (c_ne.mp c)) (fun _ => ?_)
      refine gG.step rfl (fun _ => rfl) ?_
      refine gG.goto (tgt := 81) rfl rfl ?_
      exact gG.done rfl (fun _ => rfl) (k)
    | some f =>
      rw [hf] at k
      dsimp only at k
      obtain ⟨hf1, hf2⟩ := mOvrO_some hf
      have hf30 : f < 30 := by omega
      have hF := hM.2.2.2.2 f hf1
      obtain ⟨oc, pi, sh, -, hx, hsh⟩ := hm.fld hf1
      refine gG.step (L' := [some (.ref 0), some (.int map), some (.int row), some (.int col), some (.ref (A.2.1 m)), some (.int (nI f))]) rfl (fun _ => rfl) ?_
      iterate 2 refine gG.step rfl (fun _ => rfl) ?_
      have hne : ¬ nI f = -1 := by
        intro z
        have := nI_pos' (n := f) (by omega)
        rw [z] at this
        exact absurd this (by decide)
      refine gG.icmp (tgt := 69) rfl rfl (fun _ => ?_) (fun c => absurd (c_ne.mpr hne) c)
      refine gG.step rfl (fun _ => rfl) ?_
      refine gG.get rfl (ho) rfl ?_
      refine gG.step rfl (fun _ => rfl) ?_
      refine gG.aal (j := f) rfl hga (hgf f hf1) rfl (show f < 30 by omega) (by decide) ?_
      refine gG.step rfl (fun _ => rfl) ?_
      refine gG.vir rfl (hx) rfl rfl (Nat.le_of_ble_eq_true rfl) rfl rfl (Nat.le_of_ble_eq_true rfl) ?_
      refine c_201 d hx hsh (FldI_FF.mp hF) col _ ?_
      have e : cSa (gF t m f) (t 2) col = (if t 8 (fI m f 4) &&& 8 ≤ 0 then (if 0 ≤ mCol t m f col ∧ mCol t m f col ≤ t 8 (fI m f 13) - 1 then t 2 (nv (t 8 (fI m f 12)) + nv (mCol t m f col)) else 32) else 32) := by
        have p4 := hF.1 4 (by decide)
        have p13 := hF.1 13 (by decide)
        have b13 := p13.2
        have b13' : fB 13 = 80 := rfl
        unfold cSa
        dsimp only
        show (if t 8 (fI m f 13) = 0 ∨ ¬ t 8 (fI m f 4) &&& 8 = 0 ∨ col < t 8 (fI m f 2) then 32 else if 0 ≤ mCol t m f col ∧ mCol t m f col < t 8 (fI m f 13) then t 2 (nv (t 8 (fI m f 12)) + nv (mCol t m f col)) else 32) = _
        by_cases h8 : t 8 (fI m f 4) &&& 8 = 0
        · rw [if_pos ((and8 p4).mpr h8)]
          have hcol : ¬ col < t 8 (fI m f 2) := by
            have hp := (of_decide_eq_true hf2).2.2.1
            obtain ⟨a2, b2, e2⟩ := ps_ex (hF.1 2 (by decide))
            have b2 : a2 ≤ 80 := b2
            obtain ⟨a6, b6, e6⟩ := ps_ex hM.2.2.1
            have h2' := h2
            rw [e6] at h2'
            obtain ⟨c, hc1, hc2, rfl⟩ := w1_of (by omega) h2'
            rw [e2] at hp ⊢
            rw [nI_1, nI_ltI (by omega) (by omega)] at hp
            rw [nI_ltI (by omega) (by omega)]
            omega
          by_cases h13 : t 8 (fI m f 13) = 0
          · rw [if_pos (Or.inl h13), if_neg]
            rw [h13]
            intro z
            have := Int32.le_trans z.1 z.2
            exact absurd this (by decide)
          · rw [if_neg (fun z => z.elim h13 (fun z => z.elim (fun z => z h8) hcol))]
            have hpos := nv_pos p13 h13
            have hiff : (0 ≤ mCol t m f col ∧ mCol t m f col < t 8 (fI m f 13)) ↔ (0 ≤ mCol t m f col ∧ mCol t m f col ≤ t 8 (fI m f 13) - 1) := by
              rw [p13.1]
              generalize nv (t 8 (fI m f 13)) = l at hpos b13
              have el : nI l - 1 = nI (l - 1) := pk_sub (b := 1) (by omega)
              rw [el]
              constructor
              · intro z
                refine ⟨z.1, ?_⟩
                rw [Int32.le_iff_toInt_le, nI_toInt (by omega)]
                have := z.2
                rw [Int32.lt_iff_toInt_lt, nI_toInt (by omega)] at this
                omega
              · intro z
                refine ⟨z.1, ?_⟩
                rw [Int32.lt_iff_toInt_lt, nI_toInt (by omega)]
                have := z.2
                rw [Int32.le_iff_toInt_le, nI_toInt (by omega)] at this
                omega
            by_cases hz : 0 ≤ mCol t m f col ∧ mCol t m f col < t 8 (fI m f 13)
            · rw [if_pos hz, if_pos (hiff.mp hz)]
            · rw [if_neg hz, if_neg (fun y => hz (hiff.mpr y))]
        · rw [if_pos (Or.inr (Or.inl h8)), if_neg (fun z => h8 ((and8 p4).mp z))]
      rw [e]
      exact gG.done rfl (fun _ => rfl) (k)
theorem cLk_eq {t : Nat → Nat → Int32} {m f : Nat} {o : Option Nat} (hn : 0 < t 8 (fI m f 0)) (hM : ∀ m2, o = some m2 → MapI t m2) : cLk t m f o (plS t) = mLike t m f o := by
  unfold cLk mLike
  cases o with
  | none => rfl
  | some m2 =>
    dsimp only
    rw [cNm_eq (hM m2 rfl)]
    cases hf : mFldO t m2 (t 8 (fI m f 0)) with
    | none => rfl
    | some g =>
      dsimp only
      obtain ⟨-, -, h3⟩ := mFldO_some hf
      rw [plS_named hn, plS_named (by rw [h3]; exact hn)]
/-- the fields that aren't as there -/
theorem cNa_eq {t : Nat → Nat → Int32} {m : Nat} {o : Option Nat} (hM : ∀ m2, o = some m2 → MapI t m2) (c0 : Int32) : ∀ n, (∀ f, f < n → FldI t m f) → c0 + cNa t m o (plS t) n = mDF t m o c0 n
  | 0, _ => by rw [cNa, mDF, Int32.add_zero]
  | n + 1, hF => by
    have ih := cNa_eq hM c0 n (fun f hf => hF f (by omega))
    rw [cNa, mDF]
    obtain ⟨a, ha, ea⟩ := ps_ex ((hF n (by omega)).1 0 (by decide))
    have ha : a ≤ 99 := ha
    by_cases h0 : t 8 (fI m n 0) = 0
    · rw [if_neg (fun z => z.1 h0), if_neg (fun z => by rw [h0] at z; exact absurd z.1 (by decide))]
      exact ih
    · have hpos : 0 < t 8 (fI m n 0) := by
        rw [ea] at h0 ⊢
        have : a ≠ 0 := fun z => h0 (by rw [z]; rfl)
        exact (nI_ltI (a := 0) (by decide) (by omega)).mpr (by omega)
      rw [cLk_eq hpos hM]
      by_cases hl : mLike t m n o = true
      · rw [if_neg (fun z => z.2 hl), if_neg (fun z => by rw [hl] at z; exact absurd z.2 (by decide))]
        exact ih
      · rw [if_pos ⟨h0, hl⟩, if_pos ⟨hpos, by simpa using hl⟩, ← Int32.add_assoc, ih]
/-- differ -/
theorem c_458 (d : Nat) (hS : CS V A h s t) (hI : MI s t) (x : Int32) (k : Q (some (.int (mDiffer s t x))) h) : gC (gD (d + 3)) 458 [.ref 0, .int x] h Q := by
  have h0 := hS.1
  refine gC.of (q := me_458.2) rfl (Nat.le_of_ble_eq_true rfl) rfl ?_
  iterate 2 refine gG.step (cd := cd_458) rfl (fun _ => rfl) ?_
  refine gG.vir rfl (h0) rfl rfl (Nat.le_of_ble_eq_true rfl) rfl rfl (Nat.le_of_ble_eq_true rfl) ?_
  refine c_464 d hS hI x ?_
  show gG _ _ _ _ 5 _ [va_rf (if 1 ≤ x ∧ x ≤ s 10 then some (A.1 (nv x - 1)) else none)] h Q
  unfold mDiffer at k
  by_cases hc : 1 ≤ x ∧ x ≤ s 10
  case neg =>
    rw [if_neg hc] at k ⊢
    refine gG.step rfl (fun _ => rfl) ?_
    refine gG.step rfl (fun _ => rfl) ?_
    refine gG.step rfl (fun _ => rfl) ?_
    refine gG.step rfl (fun _ => rfl) ?_
    exact gG.done rfl (fun _ => rfl) (k)
  case pos =>
  rw [if_pos hc] at k ⊢
  have hE := hI.1
  have hE6 := hE.2
  rw [hE.1] at hc
  obtain ⟨j, hj1, hj2, rfl⟩ := w1_of (by omega) hc
  rw [nv_nI (by omega)] at k ⊢
  obtain ⟨E, hEE⟩ : ∃ E, E = nv (s 10) - 1 := ⟨_, rfl⟩
  rw [← hEE] at k
  have hne : ¬ s 10 = 0 := by
    intro z
    rw [z] at hj2
    have : nv 0 = 0 := rfl
    omega
  have hhd : hd A s = A.1 E := by
    unfold hd
    rw [if_neg hne, hEE]
  have hCE := hS.2.2.2.2.2.2.2.2 E (by omega)
  have hCo := hS.2.2.2.2.2.2.2.2 (j - 1) (by omega)
  have hIE := hI.2 E (by omega)
  have hIo := hI.2 (j - 1) (by omega)
  have ha := hCE.2.1.1
  have hb := hCo.2.1.1
  obtain ⟨ga, hga, hgf⟩ := hCE.2.1.2.1
  obtain ⟨n, hn, e3⟩ := ps_ex hIE.1
  have e3n : nv (t 3 E) = n := by rw [e3, nv_nI (by omega)]
  rw [e3n] at k hgf
  refine gG.step (L' := [some (.ref 0), some (.int (nI j)), some (.ref (A.1 (j - 1))), none, none, none]) rfl (fun _ => rfl) ?_
  refine gG.step rfl (fun _ => rfl) ?_
  refine gG.jmp (tgt := 13) rfl (fun _ => rfl) rfl ?_
  refine gG.step rfl (fun _ => rfl) ?_
  refine gG.step (L' := [some (.ref 0), some (.int (nI j)), some (.ref (A.1 (j - 1))), some (.int (mDM t E (j - 1) 0)), none, none]) rfl (fun _ => rfl) ?_
  refine gG.step rfl (fun _ => rfl) ?_
  refine gG.step (L' := [some (.ref 0), some (.int (nI j)), some (.ref (A.1 (j - 1))), some (.int (mDM t E (j - 1) 0)), some (.int (nI 0)), none]) rfl (fun _ => rfl) ?_
  have key : ∀ (r i : Nat) (x5 : Option Value), i + r = n → gG tb_T (gD (d + 2)) (some .int) cd_458 18 [some (.ref 0), some (.int (nI j)), some (.ref (A.1 (j - 1))), some (.int (mDM t E (j - 1) i)), some (.int (nI i)), x5] [] h Q := by
    intro r
    induction r with
    | zero =>
      intro i x5 hi
      have hi : i = n := by omega
      subst hi
      iterate 2 refine gG.step rfl (fun _ => rfl) ?_
      refine gG.get rfl (h0) rfl ?_
      show gG _ _ _ _ 24 _ [Value.ref (hd A s), Value.int (nI i)] h Q
      rw [hhd]
      refine gG.get rfl (ha) rfl ?_
      rw [e3]
      refine gG.icmp (tgt := 65) rfl rfl (fun _ => ?_) (fun c => absurd ((c_ge (by omega) (by omega)).mpr (by omega)) c)
      refine gG.step rfl (fun _ => rfl) ?_
      exact gG.done rfl (fun _ => rfl) (k)
    | succ r ih =>
      intro i x5 hi
      have hm := hCE.2.1.2.2 i (by omega)
      have hM := hIE.2 i (by omega)
      iterate 2 refine gG.step rfl (fun _ => rfl) ?_
      refine gG.get rfl (h0) rfl ?_
      show gG _ _ _ _ 24 _ [Value.ref (hd A s), Value.int (nI i)] h Q
      rw [hhd]
      refine gG.get rfl (ha) rfl ?_
      rw [e3]
      refine gG.icmp (tgt := 65) rfl rfl (fun c => absurd c (fun z => absurd ((c_ge (by omega) (by omega)).mp z) (by omega))) (fun _ => ?_)
      refine gG.step rfl (fun _ => rfl) ?_
      refine gG.get rfl (h0) rfl ?_
      show gG _ _ _ _ 34 _ [Value.ref (hd A s)] h Q
      rw [hhd]
      refine gG.get rfl (ha) rfl ?_
      refine gG.step rfl (fun _ => rfl) ?_
      refine gG.aal (j := i) rfl hga (hgf i (by omega)) rfl (show i < 8 by omega) (by decide) ?_
      refine gG.step (L' := [some (.ref 0), some (.int (nI j)), some (.ref (A.1 (j - 1))), some (.int (mDM t E (j - 1) i)), some (.int (nI i)), some (.ref (A.2.1 (8 * E + i)))]) rfl (fun _ => rfl) ?_
      iterate 4 refine gG.step rfl (fun _ => rfl) ?_
      refine gG.get rfl (hm.2.1) rfl ?_
      refine gG.vir rfl (hb) rfl rfl (Nat.le_of_ble_eq_true rfl) rfl rfl (Nat.le_of_ble_eq_true rfl) ?_
      refine c_129 (d + 1) hCo.2.1 hIo.1 _ _ ?_
      show gG _ _ _ _ 54 _ [va_rf ((mMapO t (j - 1) (t 4 (8 * E + i))).map A.2.1), Value.ref (A.2.1 (8 * E + i)), Value.int (mDM t E (j - 1) i)] h Q
      have ho2 : ∀ m2, mMapO t (j - 1) (t 4 (8 * E + i)) = some m2 → CMp A h t m2 (lbS t m2) (plS t m2) (PT m2) (t 2) ∧ MapI t m2 := fun m2 h2 => ⟨hS.at (by omega) h2, (mMapO_some hI (by omega) h2).2.1⟩
      refine gG.vir rfl (hm.2.1) rfl rfl (Nat.le_of_ble_eq_true rfl) rfl rfl (Nat.le_of_ble_eq_true rfl) ?_
      refine c_390 d hm hM.2.2.2.1 (fun m2 h2 => ⟨(ho2 m2 h2).1, (ho2 m2 h2).2.2.2.2.1⟩) ?_
      show gG _ _ _ _ 57 _ [Value.int (cNa t (8 * E + i) (mMapO t (j - 1) (t 4 (8 * E + i))) (plS t) (nv (t 7 (8 * E + i)))), Value.int (mDM t E (j - 1) i)] h Q
      refine gG.step rfl (fun _ => rfl) ?_
      have ed := cNa_eq (fun m2 h2 => (ho2 m2 h2).2) (mDM t E (j - 1) i) (nv (t 7 (8 * E + i))) hM.2.2.2.2
      show gG _ _ _ _ 58 _ [Value.int (mDM t E (j - 1) i + cNa t (8 * E + i) (mMapO t (j - 1) (t 4 (8 * E + i))) (plS t) (nv (t 7 (8 * E + i))))] h Q
      rw [ed]
      refine gG.step (L' := [some (.ref 0), some (.int (nI j)), some (.ref (A.1 (j - 1))), some (.int (mDM t E (j - 1) (i + 1))), some (.int (nI i)), some (.ref (A.2.1 (8 * E + i)))]) rfl (fun _ => rfl) ?_
      refine gG.step rfl (fun _ => rfl) ?_
      refine gG.goto (tgt := 18) rfl rfl ?_
      have ih1 := ih (i + 1) (some (.ref (A.2.1 (8 * E + i)))) (by omega)
      rw [← nI_1 i] at ih1
      exact ih1
  exact key n 0 none (by omega)
theorem cNa_sr {t : Nat → Nat → Int32} {o m : Nat} (hM : MapI t m) (hF : ∀ f, f < nv (t 7 o) → FldI t o f) (h30 : nv (t 7 o) ≤ 30) : (cNa t o (some m) (plS t) (nv (t 7 o)) = 0) ↔ sr (mPrgP t o m) (nv (t 7 o)) 0 = none := by
  have key : ∀ n, n ≤ nv (t 7 o) → ∃ c, c ≤ n ∧ cNa t o (some m) (plS t) n = nI c ∧ (c = 0 ↔ ∀ f, f < n → mPrgP t o m f = false) := by
    intro n
    induction n with
    | zero => intro _; exact ⟨0, Nat.le_refl _, rfl, fun _ f hf => absurd hf (Nat.not_lt_zero _), fun _ => rfl⟩
    | succ n ih =>
      intro hn
      obtain ⟨c, hc, ec, hi⟩ := ih (by omega)
      rw [cNa]
      obtain ⟨a, ha, ea⟩ := ps_ex ((hF n (by omega)).1 0 (by decide))
      have ha : a ≤ 99 := ha
      have hp : mPrgP t o m n = true ↔ (¬ t 8 (fI o n 0) = 0 ∧ ¬ cLk t o n (some m) (plS t) = true) := by
        unfold mPrgP
        by_cases h0 : t 8 (fI o n 0) = 0
        · rw [decide_eq_false (fun z => by rw [h0] at z; exact absurd z (by decide))]
          exact ⟨(fun z => nomatch z), fun z => absurd h0 z.1⟩
        · have hpos : 0 < t 8 (fI o n 0) := by
            rw [ea] at h0 ⊢
            have : a ≠ 0 := fun z => h0 (by rw [z]; rfl)
            exact (nI_ltI (a := 0) (by decide) (by omega)).mpr (by omega)
          rw [decide_eq_true hpos, cLk_eq hpos (fun m2 h2 => by cases h2; exact hM)]
          cases mLike t o n (some m)
          · exact ⟨fun _ => ⟨h0, by decide⟩, fun _ => rfl⟩
          · exact ⟨(fun z => nomatch z), fun z => absurd rfl z.2⟩
      by_cases hb : ¬ t 8 (fI o n 0) = 0 ∧ ¬ cLk t o n (some m) (plS t) = true
      · rw [if_pos hb, ec, nI_1]
        refine ⟨c + 1, by omega, rfl, fun z => by omega, fun z => ?_⟩
        have := z n (by omega)
        rw [hp.mpr hb] at this
        cases this
      · rw [if_neg hb, ec]
        refine ⟨c, by omega, rfl, fun z f hf => ?_, fun z => hi.mpr (fun f hf => z f (by omega))⟩
        by_cases hfn : f = n
        · subst hfn
          simpa using fun y => hb (hp.mp y)
        · exact hi.mp z f (by omega)
  obtain ⟨c, hc, ec, hi⟩ := key _ (Nat.le_refl _)
  rw [ec]
  constructor
  · intro z
    have hc0 : c = 0 := (nI_eq (b := 0) (by omega) (by decide)).mp z
    have hall := hi.mp hc0
    cases hs : sr (mPrgP t o m) (nv (t 7 o)) 0 with
    | none => rfl
    | some f =>
      obtain ⟨-, h2, h3⟩ := sr_some hs
      rw [hall f (by omega)] at h3
      cases h3
  · intro z
    have := hi.mpr (fun f hf => sr_none z f (Nat.zero_le _) (by omega))
    rw [this]
    rfl
/-- program -/
theorem c_459 (d : Nat) (hS : CS V A h s t) (hI : MI s t) (map x : Int32) (k : Q (some (.int (mProgram s t map x))) h) : gC (gD (d + 3)) 459 [.ref 0, .int map, .int x] h Q := by
  have h0 := hS.1
  obtain ⟨xa, ha⟩ := hS.hnd hI
  refine gC.of (q := me_459.2) rfl (Nat.le_of_ble_eq_true rfl) rfl ?_
  iterate 2 refine gG.step (cd := cd_459) rfl (fun _ => rfl) ?_
  refine gG.vir rfl (h0) rfl rfl (Nat.le_of_ble_eq_true rfl) rfl rfl (Nat.le_of_ble_eq_true rfl) ?_
  refine c_464 d hS hI x ?_
  show gG _ _ _ _ 5 _ [va_rf (if 1 ≤ x ∧ x ≤ s 10 then some (A.1 (nv x - 1)) else none)] h Q
  unfold mProgram mPrgO at k
  by_cases hc : 1 ≤ x ∧ x ≤ s 10
  case neg =>
    rw [if_neg hc] at k ⊢
    have k : Q (some (.int (-2))) h := by
      cases hz : mHandO s t map with
      | none => rw [hz] at k; exact k
      | some m => rw [hz] at k; exact k
    refine gG.step rfl (fun _ => rfl) ?_
    refine gG.step rfl (fun _ => rfl) ?_
    refine gG.step rfl (fun _ => rfl) ?_
    refine gG.step rfl (fun _ => rfl) ?_
    exact gG.done rfl (fun _ => rfl) (k)
  case pos =>
  rw [if_pos hc] at k ⊢
  have hE := hI.1
  have hE6 := hE.2
  rw [hE.1] at hc
  obtain ⟨j, hj1, hj2, rfl⟩ := w1_of (by omega) hc
  rw [nv_nI (by omega)] at k ⊢
  have hCo := hS.2.2.2.2.2.2.2.2 (j - 1) (by omega)
  have hIo := hI.2 (j - 1) (by omega)
  have hb := hCo.2.1.1
  refine gG.step (L' := [some (.ref 0), some (.int map), some (.int (nI j)), some (.ref (A.1 (j - 1))), none, none]) rfl (fun _ => rfl) ?_
  refine gG.step rfl (fun _ => rfl) ?_
  refine gG.jmp (tgt := 13) rfl (fun _ => rfl) rfl ?_
  iterate 2 refine gG.step rfl (fun _ => rfl) ?_
  refine gG.vir rfl (hb) rfl rfl (Nat.le_of_ble_eq_true rfl) rfl rfl (Nat.le_of_ble_eq_true rfl) ?_
  refine c_129 (d + 1) hCo.2.1 hIo.1 _ _ ?_
  show gG _ _ _ _ 18 _ [va_rf ((mMapO t (j - 1) map).map A.2.1)] h Q
  cases hz : mMapO t (j - 1) map with
  | none =>
    rw [hz] at k
    have k : Q (some (.int (-2))) h := by
      cases hz : mHandO s t map with
      | none => rw [hz] at k; exact k
      | some m => rw [hz] at k; exact k
    refine gG.step (L' := [some (.ref 0), some (.int map), some (.int (nI j)), some (.ref (A.1 (j - 1))), some .null, none]) rfl (fun _ => rfl) ?_
    refine gG.step rfl (fun _ => rfl) ?_
    refine gG.get rfl (h0) rfl ?_
    refine gG.step rfl (fun _ => rfl) ?_
    show gG _ _ _ _ 25 _ [Value.int map, Value.ref (hd A s)] h Q
    refine gG.vir rfl (ha) rfl rfl (Nat.le_of_ble_eq_true rfl) rfl rfl (Nat.le_of_ble_eq_true rfl) ?_
    refine c_hand (d + 1) hS hI map ?_
    show gG _ _ _ _ 28 _ [va_rf ((mHandO s t map).map A.2.1)] h Q
    have go : ∀ v : Value, gG tb_T (gD (d + 2)) (some .int) cd_459 30 [some (.ref 0), some (.int map), some (.int (nI j)), some (.ref (A.1 (j - 1))), some .null, some v] [] h Q := by
      intro v
      refine gG.step rfl (fun _ => rfl) ?_
      refine gG.jmp (tgt := 40) rfl (fun _ => rfl) rfl ?_
      refine gG.step rfl (fun _ => rfl) ?_
      exact gG.done rfl (fun _ => rfl) (k)
    cases mHandO s t map with
    | none =>
      refine gG.step (L' := [some (.ref 0), some (.int map), some (.int (nI j)), some (.ref (A.1 (j - 1))), some .null, some .null]) rfl (fun _ => rfl) ?_
      exact go _
    | some m =>
      refine gG.step (L' := [some (.ref 0), some (.int map), some (.int (nI j)), some (.ref (A.1 (j - 1))), some .null, some (.ref (A.2.1 m))]) rfl (fun _ => rfl) ?_
      exact go _
  | some o =>
    rw [hz] at k
    refine gG.step (L' := [some (.ref 0), some (.int map), some (.int (nI j)), some (.ref (A.1 (j - 1))), some (.ref (A.2.1 o)), none]) rfl (fun _ => rfl) ?_
    refine gG.step rfl (fun _ => rfl) ?_
    refine gG.get rfl (h0) rfl ?_
    refine gG.step rfl (fun _ => rfl) ?_
    show gG _ _ _ _ 25 _ [Value.int map, Value.ref (hd A s)] h Q
    refine gG.vir rfl (ha) rfl rfl (Nat.le_of_ble_eq_true rfl) rfl rfl (Nat.le_of_ble_eq_true rfl) ?_
    refine c_hand (d + 1) hS hI map ?_
    show gG _ _ _ _ 28 _ [va_rf ((mHandO s t map).map A.2.1)] h Q
    cases hy : mHandO s t map with
    | none =>
      rw [hy] at k
      refine gG.step (L' := [some (.ref 0), some (.int map), some (.int (nI j)), some (.ref (A.1 (j - 1))), some (.ref (A.2.1 o)), some .null]) rfl (fun _ => rfl) ?_
      refine gG.step rfl (fun _ => rfl) ?_
      refine gG.step rfl (fun _ => rfl) ?_
      refine gG.step rfl (fun _ => rfl) ?_
      refine gG.step rfl (fun _ => rfl) ?_
      refine gG.step rfl (fun _ => rfl) ?_
      exact gG.done rfl (fun _ => rfl) (k)
    | some m =>
      rw [hy] at k
      dsimp only at k
      have hMm := (mHandO_some hI hy).2.1
      have hm := hS.map hI hy
      have hMo := (mMapO_some hI (by omega) hz).2.1
      have hmo := hS.at (by omega) hz
      refine gG.step (L' := [some (.ref 0), some (.int map), some (.int (nI j)), some (.ref (A.1 (j - 1))), some (.ref (A.2.1 o)), some (.ref (A.2.1 m))]) rfl (fun _ => rfl) ?_
      refine gG.step rfl (fun _ => rfl) ?_
      refine gG.step rfl (fun _ => rfl) ?_
      refine gG.step rfl (fun _ => rfl) ?_
      refine gG.jmp (tgt := 43) rfl (fun _ => rfl) rfl ?_
      iterate 2 refine gG.step rfl (fun _ => rfl) ?_
      refine gG.vir rfl (hmo.2.1) rfl rfl (Nat.le_of_ble_eq_true rfl) rfl rfl (Nat.le_of_ble_eq_true rfl) ?_
      refine c_390 d hmo hMo.2.2.2.1 (o := some m) (fun m2 h2 => by cases h2; exact ⟨hm, hMm.2.2.2.1⟩) ?_
      show gG _ _ _ _ 50 _ [Value.int (cNa t o (some m) (plS t) (nv (t 7 o)))] h Q
      have hiff := cNa_sr hMm hMo.2.2.2.2 hMo.2.2.2.1.2
      refine gG.ifc (tgt := 57) rfl rfl (fun c => ?_) (fun c => ?_)
      · have hne : ¬ sr (mPrgP t o m) (nv (t 7 o)) 0 = none := fun z => c_ne.mp c (hiff.mpr z)
        cases hs : sr (mPrgP t o m) (nv (t 7 o)) 0 with
        | none => exact absurd hs hne
        | some f =>
          rw [hs] at k
          refine gG.step rfl (fun _ => rfl) ?_
          exact gG.done rfl (fun _ => rfl) (k)
      · have hz0 := hiff.mp (Decidable.not_not.mp (fun z => c (c_ne.mpr z)))
        rw [hz0] at k
        refine gG.step rfl (fun _ => rfl) ?_
        refine gG.goto (tgt := 58) rfl rfl ?_
        exact gG.done rfl (fun _ => rfl) (k)
end CQ3
