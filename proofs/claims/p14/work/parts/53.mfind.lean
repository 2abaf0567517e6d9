def mFldP (t : Nat → Nat → Int32) (m : Nat) (name : Int32) (f : Nat) : Bool := decide (0 < name ∧ t 8 (fI m f 0) = name)
def mFldR (t : Nat → Nat → Int32) (m : Nat) (name : Int32) (n : Nat) : Int32 := match sr (mFldP t m name) n 0 with
  | some f => nI f
  | none => -1
theorem m_521 (d : Nat) {b : Nat} {h0 h : im_H} {s : Nat → Int32} {t : Nat → Nat → Int32} (hM : MM b h0 h s t) {m n : Nat} {name : Int32} (hm : m < 48) (hn : n ≤ 30) (ht : t 7 m = nI n) (Q : Option Value → im_H → Prop) (k : Q (some (.int (mFldR t m name n))) h) : gC (gD (d + 2)) 521 [.ref b, .int (nI m), .int name] h Q := by
  refine gC.of (q := me_521.2) rfl (Nat.le_of_ble_eq_true rfl) rfl ?_
  iterate 2 refine gG.step (cd := cd_521) rfl (fun _ => rfl) ?_
  have key : ∀ r i : Nat, i + r = n → Q (some (.int (match sr (mFldP t m name) r i with | some f => nI f | none => -1))) h → gG tb_T (gD (d + 1)) (some .int) cd_521 2 [some (.ref b), some (.int (nI m)), some (.int name), some (.int (nI i))] [] h Q := by
    intro r
    induction r with
    | zero =>
      intro i hi hq
      iterate 2 refine gG.step rfl (fun _ => rfl) ?_
      refine mGet hM rfl rfl ?_
      refine gG.step rfl (fun _ => rfl) ?_
      refine mAld (j := 7) (n := m) hM rfl (by decide) (by decide) rfl (show m < 48 from hm) ?_
      rw [ht]
      refine gG.icmp (tgt := 35) rfl rfl (fun _ => ?_) (fun c => absurd ((c_ge (by omega) (by omega)).mpr (by omega)) c)
      refine gG.step rfl (fun _ => rfl) ?_
      exact gG.done rfl (fun _ => rfl) (hq)
    | succ r ih =>
      intro i hi hq
      iterate 2 refine gG.step rfl (fun _ => rfl) ?_
      refine mGet hM rfl rfl ?_
      refine gG.step rfl (fun _ => rfl) ?_
      refine mAld (j := 7) (n := m) hM rfl (by decide) (by decide) rfl (show m < 48 from hm) ?_
      rw [ht]
      refine gG.icmp (tgt := 35) rfl rfl (fun c => absurd c (fun z => absurd ((c_ge (by omega) (by omega)).mp z) (by omega))) (fun _ => ?_)
      rw [sr] at hq
      have next : ¬ mFldP t m name i = true → gG tb_T (gD (d + 1)) (some .int) cd_521 29 [some (.ref b), some (.int (nI m)), some (.int name), some (.int (nI i))] [] h Q := by
        intro hp
        rw [if_neg hp] at hq
        refine gG.step rfl (fun _ => rfl) ?_
        refine gG.goto (tgt := 2) rfl rfl ?_
        have := ih (i + 1) (by omega) hq
        rw [← nI_1 i] at this
        exact this
      refine gG.step rfl (fun _ => rfl) ?_
      refine gG.ifc (tgt := 29) rfl rfl (fun c => ?_) (fun c => ?_)
      · exact next (fun z => absurd (of_decide_eq_true z).1 (Int32.not_lt.mpr (of_decide_eq_true c)))
      · have h1 : 0 < name := Int32.not_le.mp (fun z => c (decide_eq_true z))
        iterate 4 refine gG.step rfl (fun _ => rfl) ?_
        refine mVir hM rfl rfl rfl (Nat.le_of_ble_eq_true rfl) rfl rfl (Nat.le_of_ble_eq_true rfl) ?_
        refine m_519 d hM hm (by omega) (show 0 < 14 by decide) _ ?_
        show gG _ _ _ _ 23 _ [Value.int (t 8 (fI m i 0))] _ _
        refine gG.step rfl (fun _ => rfl) ?_
        refine gG.icmp (tgt := 29) rfl rfl (fun c => ?_) (fun c => ?_)
        · exact next (fun z => c_ne.mp c (of_decide_eq_true z).2)
        · have hp : mFldP t m name i = true := decide_eq_true ⟨h1, Decidable.not_not.mp (fun z => c (c_ne.mpr z))⟩
          rw [if_pos hp] at hq
          refine gG.step rfl (fun _ => rfl) ?_
          exact gG.done rfl (fun _ => rfl) (hq)
  exact key n 0 (by omega) k
def mOvrP (t : Nat → Nat → Int32) (m : Nat) (but row lo hi : Int32) (f : Nat) : Bool := decide (¬ nI f = but ∧ t 8 (fI m f 1) = row ∧ t 8 (fI m f 2) < hi ∧ lo < t 8 (fI m f 2) + (t 8 (fI m f 3) + 1) * t 8 (fI m f 5))
def mOvrR (t : Nat → Nat → Int32) (m : Nat) (but row lo hi : Int32) (n : Nat) : Int32 := match sr (mOvrP t m but row lo hi) n 0 with
  | some f => nI f
  | none => -1
theorem m_523 (d : Nat) {b : Nat} {h0 h : im_H} {s : Nat → Int32} {t : Nat → Nat → Int32} (hM : MM b h0 h s t) {m n : Nat} {but row lo hi : Int32} (hm : m < 48) (hn : n ≤ 30) (ht : t 7 m = nI n) (Q : Option Value → im_H → Prop) (k : Q (some (.int (mOvrR t m but row lo hi n))) h) : gC (gD (d + 2)) 523 [.ref b, .int (nI m), .int but, .int row, .int lo, .int hi] h Q := by
  refine gC.of (q := me_523.2) rfl (Nat.le_of_ble_eq_true rfl) rfl ?_
  iterate 2 refine gG.step (cd := cd_523) rfl (fun _ => rfl) ?_
  have key : ∀ (r i : Nat) (x7 : Option Value), i + r = n → Q (some (.int (match sr (mOvrP t m but row lo hi) r i with | some f => nI f | none => -1))) h → gG tb_T (gD (d + 1)) (some .int) cd_523 3 [some (.ref b), some (.int (nI m)), some (.int but), some (.int row), some (.int lo), some (.int hi), some (.int (nI i)), x7] [] h Q := by
    intro r
    induction r with
    | zero =>
      intro i x7 hir hq
      iterate 2 refine gG.step rfl (fun _ => rfl) ?_
      refine mGet hM rfl rfl ?_
      refine gG.step rfl (fun _ => rfl) ?_
      refine mAld (j := 7) (n := m) hM rfl (by decide) (by decide) rfl (show m < 48 from hm) ?_
      rw [ht]
      refine gG.icmp (tgt := 84) rfl rfl (fun _ => ?_) (fun c => absurd ((c_ge (by omega) (by omega)).mpr (by omega)) c)
      refine gG.step rfl (fun _ => rfl) ?_
      exact gG.done rfl (fun _ => rfl) (hq)
    | succ r ih =>
      intro i x7 hir hq
      iterate 2 refine gG.step rfl (fun _ => rfl) ?_
      refine mGet hM rfl rfl ?_
      refine gG.step rfl (fun _ => rfl) ?_
      refine mAld (j := 7) (n := m) hM rfl (by decide) (by decide) rfl (show m < 48 from hm) ?_
      rw [ht]
      refine gG.icmp (tgt := 84) rfl rfl (fun c => absurd c (fun z => absurd ((c_ge (by omega) (by omega)).mp z) (by omega))) (fun _ => ?_)
      rw [sr] at hq
      iterate 4 refine gG.step rfl (fun _ => rfl) ?_
      refine mVir hM rfl rfl rfl (Nat.le_of_ble_eq_true rfl) rfl rfl (Nat.le_of_ble_eq_true rfl) ?_
      refine m_519 d hM hm (by omega) (show 2 < 14 by decide) _ ?_
      show gG _ _ _ _ 22 _ [Value.int (t 8 (fI m i 2))] _ _
      refine gG.step (L' := [some (.ref b), some (.int (nI m)), some (.int but), some (.int row), some (.int lo), some (.int hi), some (.int (nI i)), some (.int (t 8 (fI m i 2)))]) rfl (fun _ => rfl) ?_
      have next : ¬ mOvrP t m but row lo hi i = true → gG tb_T (gD (d + 1)) (some .int) cd_523 78 [some (.ref b), some (.int (nI m)), some (.int but), some (.int row), some (.int lo), some (.int hi), some (.int (nI i)), some (.int (t 8 (fI m i 2)))] [] h Q := by
        intro hp
        rw [if_neg hp] at hq
        refine gG.step rfl (fun _ => rfl) ?_
        refine gG.goto (tgt := 3) rfl rfl ?_
        have := ih (i + 1) (some (.int (t 8 (fI m i 2)))) (by omega) hq
        rw [← nI_1 i] at this
        exact this
      iterate 2 refine gG.step rfl (fun _ => rfl) ?_
      refine gG.icmp (tgt := 78) rfl rfl (fun c1 => ?_) (fun c1 => ?_)
      · exact next (fun z => (of_decide_eq_true z).1 (c_ee.mp c1))
      · iterate 4 refine gG.step rfl (fun _ => rfl) ?_
        refine mVir hM rfl rfl rfl (Nat.le_of_ble_eq_true rfl) rfl rfl (Nat.le_of_ble_eq_true rfl) ?_
        refine m_519 d hM hm (by omega) (show 1 < 14 by decide) _ ?_
        show gG _ _ _ _ 38 _ [Value.int (t 8 (fI m i 1))] _ _
        refine gG.step rfl (fun _ => rfl) ?_
        refine gG.icmp (tgt := 78) rfl rfl (fun c2 => ?_) (fun c2 => ?_)
        · exact next (fun z => c_ne.mp c2 (of_decide_eq_true z).2.1)
        · iterate 2 refine gG.step rfl (fun _ => rfl) ?_
          refine gG.icmp (tgt := 78) rfl rfl (fun c3 => ?_) (fun c3 => ?_)
          · exact next (fun z => absurd (of_decide_eq_true z).2.2.1 (Int32.not_lt.mpr (of_decide_eq_true c3)))
          · iterate 5 refine gG.step rfl (fun _ => rfl) ?_
            refine mVir hM rfl rfl rfl (Nat.le_of_ble_eq_true rfl) rfl rfl (Nat.le_of_ble_eq_true rfl) ?_
            refine m_519 d hM hm (by omega) (show 3 < 14 by decide) _ ?_
            show gG _ _ _ _ 59 _ [Value.int (t 8 (fI m i 3)), Value.int (t 8 (fI m i 2))] _ _
            iterate 4 refine gG.step rfl (fun _ => rfl) ?_
            refine mVir hM rfl rfl rfl (Nat.le_of_ble_eq_true rfl) rfl rfl (Nat.le_of_ble_eq_true rfl) ?_
            refine m_519 d hM hm (by omega) (show 5 < 14 by decide) _ ?_
            show gG _ _ _ _ 67 _ [Value.int (t 8 (fI m i 5)), Value.int (t 8 (fI m i 3)), Value.int (t 8 (fI m i 2))] _ _
            refine gG.inv rfl (fun _ => rfl) (Nat.le_of_ble_eq_true rfl) rfl rfl (Nat.le_of_ble_eq_true rfl) ?_
            refine m_522 d _ _ _ _ _ ?_
            show gG _ _ _ _ 70 _ [Value.int (t 8 (fI m i 2) + (t 8 (fI m i 3) + 1) * t 8 (fI m i 5))] _ _
            refine gG.step rfl (fun _ => rfl) ?_
            refine gG.icmp (tgt := 78) rfl rfl (fun c4 => ?_) (fun c4 => ?_)
            · exact next (fun z => absurd (of_decide_eq_true z).2.2.2 (Int32.not_lt.mpr (of_decide_eq_true c4)))
            · have hp : mOvrP t m but row lo hi i = true := decide_eq_true ⟨fun z => c1 (c_ee.mpr z), Decidable.not_not.mp (fun z => c2 (c_ne.mpr z)), Int32.not_le.mp (fun z => c3 (decide_eq_true z)), Int32.not_le.mp (fun z => c4 (decide_eq_true z))⟩
              rw [if_pos hp] at hq
              refine gG.step rfl (fun _ => rfl) ?_
              exact gG.done rfl (fun _ => rfl) (hq)
  exact key n 0 none (by omega) k
