theorem mFldO_some {t : Nat → Nat → Int32} {m f : Nat} {name : Int32} (h : mFldO t m name = some f) : f < nv (t 7 m) ∧ 0 < name ∧ t 8 (fI m f 0) = name := by
  obtain ⟨-, h2, h3⟩ := sr_some h
  rw [Nat.zero_add] at h2
  exact ⟨h2, of_decide_eq_true h3⟩
def mLayout (s : Nat → Int32) (t : Nat → Nat → Int32) (map field what : Int32) : Int32 := match mHandO s t map with
  | none => -1
  | some m => if field = 0 then (if what = 0 then mBT t m (nv (t 7 m)) else -1) else match mFldO t m field with
    | none => -1
    | some f => if what = 0 then mBT t m f else if what = 1 then mBT t m f + 2 else if what = 2 then mBT t m f + 3 else if what = 3 then mBO t m f else -1
theorem m_540 (d : Nat) {b : Nat} {h0 h : im_H} {s : Nat → Int32} {t : Nat → Nat → Int32} (hM : MM b h0 h s t) (hI : MI s t) {map field what : Int32} (Q : Option Value → im_H → Prop) (k : ∀ h', MM b h0 h' (upd s 0 0) t → Q (some (.int (mLayout s t map field what))) h') : gC (gD (d + 4)) 540 [.ref b, .int map, .int field, .int what] h Q := by
  refine gC.of (q := me_540.2) rfl (Nat.le_of_ble_eq_true rfl) rfl ?_
  iterate 2 refine gG.step (cd := cd_540) rfl (fun _ => rfl) ?_
  refine mPut hM rfl (by decide) rfl rfl rfl (fun h hM => ?_)
  have k := k h hM
  have hI : MI (upd s 0 0) t := hI
  iterate 2 refine gG.step rfl (fun _ => rfl) ?_
  refine mVir hM rfl rfl rfl (Nat.le_of_ble_eq_true rfl) rfl rfl (Nat.le_of_ble_eq_true rfl) ?_
  refine m_535' (d + 1) hM hI _ ?_
  show gG _ _ _ _ 10 _ [Value.int (oI (mHandO s t map))] h Q
  unfold mLayout at k
  cases ho : mHandO s t map with
  | none =>
    rw [ho] at k
    iterate 2 refine gG.step rfl (fun _ => rfl) ?_
    refine gG.ifc (tgt := 19) rfl rfl (fun c => absurd c (by decide)) (fun _ => ?_)
    refine gG.step rfl (fun _ => rfl) ?_
    exact gG.done rfl (fun _ => rfl) (k)
  | some m =>
    rw [ho] at k
    dsimp only at k
    obtain ⟨hm, hmi, -⟩ := mHandO_some (s := upd s 0 0) hI ho
    have hn := hmi.2.2.2.1
    iterate 2 refine gG.step rfl (fun _ => rfl) ?_
    refine gG.ifc (tgt := 19) rfl rfl (fun _ => ?_) (fun c => absurd (c_gen (by omega)) c)
    refine gG.step rfl (fun _ => rfl) ?_
    refine gG.ifc (tgt := 45) rfl rfl (fun c => ?_) (fun c => ?_)
    · rw [if_neg (c_ne.mp c)] at k
      iterate 3 refine gG.step rfl (fun _ => rfl) ?_
      refine mVir hM rfl rfl rfl (Nat.le_of_ble_eq_true rfl) rfl rfl (Nat.le_of_ble_eq_true rfl) ?_
      refine m_521' (d + 1) hM hm hn _ ?_
      show gG _ _ _ _ 52 _ [Value.int (oI (mFldO t m field))] h Q
      cases hf : mFldO t m field with
      | none =>
        rw [hf] at k
        iterate 2 refine gG.step rfl (fun _ => rfl) ?_
        refine gG.ifc (tgt := 61) rfl rfl (fun c => absurd c (by decide)) (fun _ => ?_)
        refine gG.step rfl (fun _ => rfl) ?_
        exact gG.done rfl (fun _ => rfl) (k)
      | some f =>
        rw [hf] at k
        dsimp only at k
        have hf1 := (mFldO_some hf).1
        have hf30 : f < 30 := by have := hn.2; omega
        iterate 2 refine gG.step rfl (fun _ => rfl) ?_
        refine gG.ifc (tgt := 61) rfl rfl (fun _ => ?_) (fun c => absurd (c_gen (by omega)) c)
        iterate 3 refine gG.step rfl (fun _ => rfl) ?_
        refine mVir hM rfl rfl rfl (Nat.le_of_ble_eq_true rfl) rfl rfl (Nat.le_of_ble_eq_true rfl) ?_
        refine m_538 d hM hm (by omega) _ ?_
        show gG _ _ _ _ 69 _ [Value.int (mBT t m f)] h Q
        iterate 2 refine gG.step rfl (fun _ => rfl) ?_
        refine gG.ifc (tgt := 80) rfl rfl (fun w0 => ?_) (fun w0 => ?_)
        · rw [if_neg (c_ne.mp w0)] at k
          iterate 2 refine gG.step rfl (fun _ => rfl) ?_
          refine gG.icmp (tgt := 92) rfl rfl (fun w1 => ?_) (fun w1 => ?_)
          · rw [if_neg (show ¬ what = 1 from c_ne.mp w1)] at k
            iterate 2 refine gG.step rfl (fun _ => rfl) ?_
            refine gG.icmp (tgt := 104) rfl rfl (fun w2 => ?_) (fun w2 => ?_)
            · rw [if_neg (show ¬ what = 2 from c_ne.mp w2)] at k
              iterate 2 refine gG.step rfl (fun _ => rfl) ?_
              refine gG.icmp (tgt := 120) rfl rfl (fun w3 => ?_) (fun w3 => ?_)
              · rw [if_neg (show ¬ what = 3 from c_ne.mp w3)] at k
                refine gG.step rfl (fun _ => rfl) ?_
                exact gG.done rfl (fun _ => rfl) (k)
              · rw [if_pos (show what = 3 from Decidable.not_not.mp (fun z => w3 (c_ne.mpr z)))] at k
                iterate 3 refine gG.step rfl (fun _ => rfl) ?_
                refine mVir hM rfl rfl rfl (Nat.le_of_ble_eq_true rfl) rfl rfl (Nat.le_of_ble_eq_true rfl) ?_
                refine m_539 (d + 1) hM hm hf30 _ ?_
                refine gG.goto (tgt := 121) rfl rfl ?_
                exact gG.done rfl (fun _ => rfl) (k)
            · rw [if_pos (show what = 2 from Decidable.not_not.mp (fun z => w2 (c_ne.mpr z)))] at k
              iterate 3 refine gG.step rfl (fun _ => rfl) ?_
              refine gG.goto (tgt := 121) rfl rfl ?_
              exact gG.done rfl (fun _ => rfl) (k)
          · rw [if_pos (show what = 1 from Decidable.not_not.mp (fun z => w1 (c_ne.mpr z)))] at k
            iterate 3 refine gG.step rfl (fun _ => rfl) ?_
            refine gG.goto (tgt := 121) rfl rfl ?_
            exact gG.done rfl (fun _ => rfl) (k)
        · rw [if_pos (Decidable.not_not.mp (fun z => w0 (c_ne.mpr z)))] at k
          refine gG.step rfl (fun _ => rfl) ?_
          refine gG.goto (tgt := 121) rfl rfl ?_
          exact gG.done rfl (fun _ => rfl) (k)
    · rw [if_pos (Decidable.not_not.mp (fun z => c (c_ne.mpr z)))] at k
      refine gG.step rfl (fun _ => rfl) ?_
      refine gG.ifc (tgt := 43) rfl rfl (fun w0 => ?_) (fun w0 => ?_)
      · rw [if_neg (c_ne.mp w0)] at k
        refine gG.step rfl (fun _ => rfl) ?_
        exact gG.done rfl (fun _ => rfl) (k)
      · rw [if_pos (Decidable.not_not.mp (fun z => w0 (c_ne.mpr z)))] at k
        iterate 3 refine gG.step rfl (fun _ => rfl) ?_
        refine mGet hM rfl rfl ?_
        refine gG.step rfl (fun _ => rfl) ?_
        refine mAld (j := 7) (n := m) hM rfl (by decide) (by decide) rfl (show m < 48 from hm) ?_
        show gG _ _ _ _ 37 _ [Value.int (t 7 m), Value.int (nI m), Value.ref b] h Q
        rw [hn.1]
        refine mVir hM rfl rfl rfl (Nat.le_of_ble_eq_true rfl) rfl rfl (Nat.le_of_ble_eq_true rfl) ?_
        refine m_538 d hM hm hn.2 _ ?_
        refine gG.goto (tgt := 44) rfl rfl ?_
        exact gG.done rfl (fun _ => rfl) (k)
def mGS (t : Nat → Nat → Int32) (m : Nat) (g : Int32) : Nat → Int32
  | 0 => 0
  | f + 1 => if t 8 (fI m f 6) = g then mGS t m g f + (t 8 (fI m f 3) + 1) * t 8 (fI m f 5) else mGS t m g f
def mGroup (s : Nat → Int32) (t : Nat → Nat → Int32) (map field : Int32) : Int32 := match mHandO s t map with
  | none => -2
  | some m => match mFldO t m field with
    | none => -2
    | some f => if t 8 (fI m f 6) ≤ 0 then 0 else mGS t m (t 8 (fI m f 6)) (nv (t 7 m))
theorem m_550 (d : Nat) {b : Nat} {h0 h : im_H} {s : Nat → Int32} {t : Nat → Nat → Int32} (hM : MM b h0 h s t) (hI : MI s t) {map field : Int32} (Q : Option Value → im_H → Prop) (k : ∀ h', MM b h0 h' (upd s 0 0) t → Q (some (.int (mGroup s t map field))) h') : gC (gD (d + 3)) 550 [.ref b, .int map, .int field] h Q := by
  refine gC.of (q := me_550.2) rfl (Nat.le_of_ble_eq_true rfl) rfl ?_
  iterate 2 refine gG.step (cd := cd_550) rfl (fun _ => rfl) ?_
  refine mPut hM rfl (by decide) rfl rfl rfl (fun h hM => ?_)
  have k := k h hM
  have hI : MI (upd s 0 0) t := hI
  iterate 2 refine gG.step rfl (fun _ => rfl) ?_
  refine mVir hM rfl rfl rfl (Nat.le_of_ble_eq_true rfl) rfl rfl (Nat.le_of_ble_eq_true rfl) ?_
  refine m_535' d hM hI _ ?_
  show gG _ _ _ _ 10 _ [Value.int (oI (mHandO s t map))] h Q
  unfold mGroup at k
  cases ho : mHandO s t map with
  | none =>
    rw [ho] at k
    iterate 2 refine gG.step rfl (fun _ => rfl) ?_
    refine gG.ifc (tgt := 19) rfl rfl (fun c => absurd c (by decide)) (fun _ => ?_)
    refine gG.step rfl (fun _ => rfl) ?_
    refine gG.goto (tgt := 25) rfl rfl ?_
    iterate 2 refine gG.step rfl (fun _ => rfl) ?_
    refine gG.ifc (tgt := 35) rfl rfl (fun c => absurd c (by decide)) (fun _ => ?_)
    refine gG.step rfl (fun _ => rfl) ?_
    exact gG.done rfl (fun _ => rfl) (k)
  | some m =>
    rw [ho] at k
    dsimp only at k
    obtain ⟨hm, hmi, -⟩ := mHandO_some (s := upd s 0 0) hI ho
    have hn := hmi.2.2.2.1
    iterate 2 refine gG.step rfl (fun _ => rfl) ?_
    refine gG.ifc (tgt := 19) rfl rfl (fun _ => ?_) (fun c => absurd (c_gen (by omega)) c)
    iterate 3 refine gG.step rfl (fun _ => rfl) ?_
    refine mVir hM rfl rfl rfl (Nat.le_of_ble_eq_true rfl) rfl rfl (Nat.le_of_ble_eq_true rfl) ?_
    refine m_521' d hM hm hn _ ?_
    show gG _ _ _ _ 25 _ [Value.int (oI (mFldO t m field))] h Q
    cases hf : mFldO t m field with
    | none =>
      rw [hf] at k
      iterate 2 refine gG.step rfl (fun _ => rfl) ?_
      refine gG.ifc (tgt := 35) rfl rfl (fun c => absurd c (by decide)) (fun _ => ?_)
      refine gG.step rfl (fun _ => rfl) ?_
      exact gG.done rfl (fun _ => rfl) (k)
    | some f =>
      rw [hf] at k
      dsimp only at k
      have hf1 := (mFldO_some hf).1
      have hf30 : f < 30 := by have := hn.2; omega
      iterate 2 refine gG.step rfl (fun _ => rfl) ?_
      refine gG.ifc (tgt := 35) rfl rfl (fun _ => ?_) (fun c => absurd (c_gen (by omega)) c)
      iterate 6 refine gG.step rfl (fun _ => rfl) ?_
      refine mVir hM rfl rfl rfl (Nat.le_of_ble_eq_true rfl) rfl rfl (Nat.le_of_ble_eq_true rfl) ?_
      refine m_519 (d + 1) hM hm hf30 (show 6 < 14 by decide) _ ?_
      show gG _ _ _ _ 47 _ [Value.int (t 8 (fI m f 6))] h Q
      iterate 3 refine gG.step rfl (fun _ => rfl) ?_
      have key : ∀ r i : Nat, i + r = nv (t 7 m) → (t 8 (fI m f 6) ≤ 0 → i = 0) → gG tb_T (gD (d + 2)) (some .int) cd_550 52 [some (.ref b), some (.int map), some (.int field), some (.int (nI m)), some (.int (nI f)), some (.int (if t 8 (fI m f 6) ≤ 0 then 0 else mGS t m (t 8 (fI m f 6)) i)), some (.int (t 8 (fI m f 6))), some (.int (nI i))] [] h Q := by
        intro r
        induction r with
        | zero =>
          intro i hi hz
          have hi : i = nv (t 7 m) := by omega
          iterate 2 refine gG.step rfl (fun _ => rfl) ?_
          refine mGet hM rfl rfl ?_
          refine gG.step rfl (fun _ => rfl) ?_
          refine mAld (j := 7) (n := m) hM rfl (by decide) (by decide) rfl (show m < 48 from hm) ?_
          rw [hn.1]
          refine gG.icmp (tgt := 112) rfl rfl (fun _ => ?_) (fun c => absurd ((c_ge (by have := hn.2; omega) (by have := hn.2; omega)).mpr (by omega)) c)
          refine gG.step rfl (fun _ => rfl) ?_
          refine gG.done rfl (fun _ => rfl) ?_
          rw [hi]
          exact k
        | succ r ih =>
          intro i hi hz
          iterate 2 refine gG.step rfl (fun _ => rfl) ?_
          refine mGet hM rfl rfl ?_
          refine gG.step rfl (fun _ => rfl) ?_
          refine mAld (j := 7) (n := m) hM rfl (by decide) (by decide) rfl (show m < 48 from hm) ?_
          show gG _ _ _ _ 60 _ [Value.int (t 7 m), Value.int (nI i)] h Q
          rw [hn.1]
          refine gG.icmp (tgt := 112) rfl rfl (fun z => absurd ((c_ge (by have := hn.2; omega) (by have := hn.2; omega)).mp z) (by omega)) (fun _ => ?_)
          refine gG.step rfl (fun _ => rfl) ?_
          refine gG.ifc (tgt := 112) rfl rfl (fun c => ?_) (fun c => ?_)
          · have hle : t 8 (fI m f 6) ≤ 0 := of_decide_eq_true c
            have hi0 := hz hle
            subst hi0
            rw [if_pos hle] at k ⊢
            refine gG.step rfl (fun _ => rfl) ?_
            exact gG.done rfl (fun _ => rfl) (k)
          · have hgt : ¬ t 8 (fI m f 6) ≤ 0 := fun z => c (decide_eq_true z)
            have ih1 := ih (i + 1) (by omega) (fun z => absurd z hgt)
            rw [← nI_1 i, if_neg hgt, mGS] at ih1
            rw [if_neg hgt]
            have hi30 : i < 30 := by have := hn.2; omega
            iterate 4 refine gG.step rfl (fun _ => rfl) ?_
            refine mVir hM rfl rfl rfl (Nat.le_of_ble_eq_true rfl) rfl rfl (Nat.le_of_ble_eq_true rfl) ?_
            refine m_519 (d + 1) hM hm hi30 (show 6 < 14 by decide) _ ?_
            show gG _ _ _ _ 77 _ [Value.int (t 8 (fI m i 6))] h Q
            refine gG.step rfl (fun _ => rfl) ?_
            refine gG.icmp (tgt := 106) rfl rfl (fun c2 => ?_) (fun c2 => ?_)
            · rw [if_neg (c_ne.mp c2)] at ih1
              refine gG.step rfl (fun _ => rfl) ?_
              refine gG.goto (tgt := 52) rfl rfl ?_
              exact ih1
            · rw [if_pos (Decidable.not_not.mp (fun z => c2 (c_ne.mpr z)))] at ih1
              iterate 5 refine gG.step rfl (fun _ => rfl) ?_
              refine mVir hM rfl rfl rfl (Nat.le_of_ble_eq_true rfl) rfl rfl (Nat.le_of_ble_eq_true rfl) ?_
              refine m_519 (d + 1) hM hm hi30 (show 3 < 14 by decide) _ ?_
              show gG _ _ _ _ 92 _ [Value.int (t 8 (fI m i 3)), Value.int (mGS t m (t 8 (fI m f 6)) i)] h Q
              iterate 6 refine gG.step rfl (fun _ => rfl) ?_
              refine mVir hM rfl rfl rfl (Nat.le_of_ble_eq_true rfl) rfl rfl (Nat.le_of_ble_eq_true rfl) ?_
              refine m_519 (d + 1) hM hm hi30 (show 5 < 14 by decide) _ ?_
              show gG _ _ _ _ 102 _ [Value.int (t 8 (fI m i 5)), Value.int (t 8 (fI m i 3) + 1), Value.int (mGS t m (t 8 (fI m f 6)) i)] h Q
              iterate 4 refine gG.step rfl (fun _ => rfl) ?_
              refine gG.goto (tgt := 52) rfl rfl ?_
              exact ih1
      have hk0 := key (nv (t 7 m)) 0 (by omega) (fun _ => rfl)
      have e0 : (if t 8 (fI m f 6) ≤ 0 then (0 : Int32) else mGS t m (t 8 (fI m f 6)) 0) = 0 := by
        split <;> rfl
      rw [e0] at hk0
      exact hk0
def mLike (t : Nat → Nat → Int32) (m f : Nat) (o : Option Nat) : Bool := match o with
  | none => false
  | some o => match mFldO t o (t 8 (fI m f 0)) with
    | none => false
    | some g => decide (t 8 (fI m f 3) = t 8 (fI o g 3) ∧ t 8 (fI m f 5) = t 8 (fI o g 5) ∧ mBT t m f = mBT t o g)
theorem m_547 (d : Nat) {b : Nat} {h0 h : im_H} {s : Nat → Int32} {t : Nat → Nat → Int32} (hM : MM b h0 h s t) {m f : Nat} {o : Option Nat} (hm : m < 48) (hf : f < 30) (ho : ∀ q, o = some q → q < 48 ∧ ps (t 7 q) 30) (Q : Option Value → im_H → Prop) (k : Q (some (.int (bI (mLike t m f o)))) h) : gC (gD (d + 4)) 547 [.ref b, .int (nI m), .int (nI f), .int (oI o)] h Q := by
  refine gC.of (q := me_547.2) rfl (Nat.le_of_ble_eq_true rfl) rfl ?_
  refine gG.step (cd := cd_547) rfl (fun _ => rfl) ?_
  cases o with
  | none =>
    refine gG.ifc (tgt := 6) rfl rfl (fun c => absurd c (by decide)) (fun _ => ?_)
    refine gG.step rfl (fun _ => rfl) ?_
    exact gG.done rfl (fun _ => rfl) (k)
  | some q =>
    obtain ⟨hq, hn⟩ := ho q rfl
    refine gG.ifc (tgt := 6) rfl rfl (fun _ => ?_) (fun c => absurd (c_gen (by omega)) c)
    iterate 6 refine gG.step rfl (fun _ => rfl) ?_
    refine mVir hM rfl rfl rfl (Nat.le_of_ble_eq_true rfl) rfl rfl (Nat.le_of_ble_eq_true rfl) ?_
    refine m_519 (d + 2) hM hm hf (show 0 < 14 by decide) _ ?_
    show gG _ _ _ _ 15 _ [Value.int (t 8 (fI m f 0)), Value.int (nI q), Value.ref b] h Q
    refine mVir hM rfl rfl rfl (Nat.le_of_ble_eq_true rfl) rfl rfl (Nat.le_of_ble_eq_true rfl) ?_
    refine m_521' (d + 1) hM hq hn _ ?_
    show gG _ _ _ _ 18 _ [Value.int (oI (mFldO t q (t 8 (fI m f 0))))] h Q
    unfold mLike at k
    dsimp only at k
    cases hg : mFldO t q (t 8 (fI m f 0)) with
    | none =>
      rw [hg] at k
      iterate 2 refine gG.step rfl (fun _ => rfl) ?_
      refine gG.ifc (tgt := 81) rfl rfl (fun _ => ?_) (fun c => absurd (by decide) c)
      refine gG.step rfl (fun _ => rfl) ?_
      exact gG.done rfl (fun _ => rfl) (k)
    | some g =>
      rw [hg] at k
      dsimp only at k
      have hg30 : g < 30 := by have h1 := (mFldO_some hg).1; have h2 := hn.2; omega
      iterate 2 refine gG.step rfl (fun _ => rfl) ?_
      refine gG.ifc (tgt := 81) rfl rfl (fun c => absurd c (c_ltn (by omega))) (fun _ => ?_)
      iterate 4 refine gG.step rfl (fun _ => rfl) ?_
      refine mVir hM rfl rfl rfl (Nat.le_of_ble_eq_true rfl) rfl rfl (Nat.le_of_ble_eq_true rfl) ?_
      refine m_519 (d + 2) hM hm hf (show 3 < 14 by decide) _ ?_
      show gG _ _ _ _ 32 _ [Value.int (t 8 (fI m f 3))] h Q
      iterate 4 refine gG.step rfl (fun _ => rfl) ?_
      refine mVir hM rfl rfl rfl (Nat.le_of_ble_eq_true rfl) rfl rfl (Nat.le_of_ble_eq_true rfl) ?_
      refine m_519 (d + 2) hM hq hg30 (show 3 < 14 by decide) _ ?_
      show gG _ _ _ _ 40 _ [Value.int (t 8 (fI q g 3)), Value.int (t 8 (fI m f 3))] h Q
      refine gG.icmp (tgt := 81) rfl rfl (fun c1 => ?_) (fun c1 => ?_)
      · rw [decide_eq_false (fun z => c_ne.mp c1 z.1)] at k
        refine gG.step rfl (fun _ => rfl) ?_
        exact gG.done rfl (fun _ => rfl) (k)
      · iterate 4 refine gG.step rfl (fun _ => rfl) ?_
        refine mVir hM rfl rfl rfl (Nat.le_of_ble_eq_true rfl) rfl rfl (Nat.le_of_ble_eq_true rfl) ?_
        refine m_519 (d + 2) hM hm hf (show 5 < 14 by decide) _ ?_
        show gG _ _ _ _ 50 _ [Value.int (t 8 (fI m f 5))] h Q
        iterate 4 refine gG.step rfl (fun _ => rfl) ?_
        refine mVir hM rfl rfl rfl (Nat.le_of_ble_eq_true rfl) rfl rfl (Nat.le_of_ble_eq_true rfl) ?_
        refine m_519 (d + 2) hM hq hg30 (show 5 < 14 by decide) _ ?_
        show gG _ _ _ _ 58 _ [Value.int (t 8 (fI q g 5)), Value.int (t 8 (fI m f 5))] h Q
        refine gG.icmp (tgt := 81) rfl rfl (fun c2 => ?_) (fun c2 => ?_)
        · rw [decide_eq_false (fun z => c_ne.mp c2 z.2.1)] at k
          refine gG.step rfl (fun _ => rfl) ?_
          exact gG.done rfl (fun _ => rfl) (k)
        · iterate 3 refine gG.step rfl (fun _ => rfl) ?_
          refine mVir hM rfl rfl rfl (Nat.le_of_ble_eq_true rfl) rfl rfl (Nat.le_of_ble_eq_true rfl) ?_
          refine m_538 d hM hm (by omega) _ ?_
          show gG _ _ _ _ 67 _ [Value.int (mBT t m f)] h Q
          iterate 3 refine gG.step rfl (fun _ => rfl) ?_
          refine mVir hM rfl rfl rfl (Nat.le_of_ble_eq_true rfl) rfl rfl (Nat.le_of_ble_eq_true rfl) ?_
          refine m_538 d hM hq (by omega) _ ?_
          show gG _ _ _ _ 74 _ [Value.int (mBT t q g), Value.int (mBT t m f)] h Q
          refine gG.icmp (tgt := 81) rfl rfl (fun c3 => ?_) (fun c3 => ?_)
          · rw [decide_eq_false (fun z => c_ne.mp c3 z.2.2)] at k
            refine gG.step rfl (fun _ => rfl) ?_
            exact gG.done rfl (fun _ => rfl) (k)
          · rw [decide_eq_true ⟨Decidable.not_not.mp (fun z => c1 (c_ne.mpr z)), Decidable.not_not.mp (fun z => c2 (c_ne.mpr z)), Decidable.not_not.mp (fun z => c3 (c_ne.mpr z))⟩] at k
            refine gG.step rfl (fun _ => rfl) ?_
            refine gG.goto (tgt := 82) rfl rfl ?_
            exact gG.done rfl (fun _ => rfl) (k)
