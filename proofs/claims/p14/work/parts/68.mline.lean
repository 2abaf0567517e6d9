def mReadPic (s : Nat → Int32) (t : Nat → Nat → Int32) (m f : Nat) : Int32 × (Nat → Int32) × (Nat → Nat → Int32) :=
  if t 9 0 ≤ 9 ∧ t 9 0 < t 8 (fI m f 3) ∧ t 9 1 ≤ 1 ∧ t 9 2 ≤ 1 then (if t 8 (fI m f 0) = 0 ∨ ¬ s 19 = 0 then (4, s, t) else (0, upd s 19 1, mTl (mTl (mTl t m f 7 (t 9 0)) m f 10 (t 9 1)) m f 11 (t 9 2))) else (3, s, t)
theorem m_529 (d : Nat) {b : Nat} {h0 h : im_H} {s : Nat → Int32} {t : Nat → Nat → Int32} (hM : MM b h0 h s t) {m f : Nat} (hm : m < 48) (hf : f < 30) (Q : Option Value → im_H → Prop) (k : ∀ h', MM b h0 h' (mReadPic s t m f).2.1 (mReadPic s t m f).2.2 → Q (some (.int (mReadPic s t m f).1)) h') : gC (gD (d + 2)) 529 [.ref b, .int (nI m), .int (nI f)] h Q := by
  refine gC.of (q := me_529.2) rfl (Nat.le_of_ble_eq_true rfl) rfl ?_
  refine gG.step (cd := cd_529) rfl (fun _ => rfl) ?_
  refine mGet hM rfl rfl ?_
  refine gG.step rfl (fun _ => rfl) ?_
  refine mAld (j := 9) (n := 0) hM rfl (by decide) (by decide) rfl (show 0 < 6 by decide) ?_
  refine gG.step rfl (fun _ => rfl) ?_
  unfold mReadPic at k
  have wrong : ¬ (t 9 0 ≤ 9 ∧ t 9 0 < t 8 (fI m f 3) ∧ t 9 1 ≤ 1 ∧ t 9 2 ≤ 1) → gG tb_T (gD (d + 1)) (some .int) cd_529 47 [some (.ref b), some (.int (nI m)), some (.int (nI f))] [] h Q := by
    intro hz
    rw [if_neg hz] at k
    refine gG.step rfl (fun _ => rfl) ?_
    exact gG.done rfl (fun _ => rfl) (k h hM)
  refine gG.icmp (tgt := 47) rfl rfl (fun c => wrong (fun z => absurd z.1 (Int32.not_le.mpr (of_decide_eq_true c)))) (fun c0 => ?_)
  refine gG.step rfl (fun _ => rfl) ?_
  refine mGet hM rfl rfl ?_
  refine gG.step rfl (fun _ => rfl) ?_
  refine mAld (j := 9) (n := 0) hM rfl (by decide) (by decide) rfl (show 0 < 6 by decide) ?_
  iterate 4 refine gG.step rfl (fun _ => rfl) ?_
  refine mVir hM rfl rfl rfl (Nat.le_of_ble_eq_true rfl) rfl rfl (Nat.le_of_ble_eq_true rfl) ?_
  refine m_519 d hM hm hf (show 3 < 14 by decide) _ ?_
  show gG _ _ _ _ 24 _ [Value.int (t 8 (fI m f 3)), Value.int (t 9 0)] h Q
  refine gG.icmp (tgt := 47) rfl rfl (fun c => wrong (fun z => absurd z.2.1 (Int32.not_lt.mpr (of_decide_eq_true c)))) (fun c1 => ?_)
  refine gG.step rfl (fun _ => rfl) ?_
  refine mGet hM rfl rfl ?_
  refine gG.step rfl (fun _ => rfl) ?_
  refine mAld (j := 9) (n := 1) hM rfl (by decide) (by decide) rfl (show 1 < 6 by decide) ?_
  refine gG.step rfl (fun _ => rfl) ?_
  refine gG.icmp (tgt := 47) rfl rfl (fun c => wrong (fun z => absurd z.2.2.1 (Int32.not_le.mpr (of_decide_eq_true c)))) (fun c2 => ?_)
  refine gG.step rfl (fun _ => rfl) ?_
  refine mGet hM rfl rfl ?_
  refine gG.step rfl (fun _ => rfl) ?_
  refine mAld (j := 9) (n := 2) hM rfl (by decide) (by decide) rfl (show 2 < 6 by decide) ?_
  refine gG.step rfl (fun _ => rfl) ?_
  refine gG.icmp (tgt := 49) rfl rfl (fun c3 => ?_) (fun c3 => wrong (fun z => c3 (decide_eq_true z.2.2.2)))
  rw [if_pos ⟨Int32.not_lt.mp (fun z => c0 (decide_eq_true z)), Int32.not_le.mp (fun z => c1 (decide_eq_true z)), Int32.not_lt.mp (fun z => c2 (decide_eq_true z)), of_decide_eq_true c3⟩] at k
  have four : (t 8 (fI m f 0) = 0 ∨ ¬ s 19 = 0) → gG tb_T (gD (d + 1)) (some .int) cd_529 66 [some (.ref b), some (.int (nI m)), some (.int (nI f))] [] h Q := by
    intro hz
    rw [if_pos hz] at k
    refine gG.step rfl (fun _ => rfl) ?_
    exact gG.done rfl (fun _ => rfl) (k h hM)
  iterate 4 refine gG.step rfl (fun _ => rfl) ?_
  refine mVir hM rfl rfl rfl (Nat.le_of_ble_eq_true rfl) rfl rfl (Nat.le_of_ble_eq_true rfl) ?_
  refine m_519 d hM hm hf (show 0 < 14 by decide) _ ?_
  show gG _ _ _ _ 56 _ [Value.int (t 8 (fI m f 0))] h Q
  refine gG.ifc (tgt := 66) rfl rfl (fun c => four (Or.inl (c_ee.mp c))) (fun c4 => ?_)
  refine gG.step rfl (fun _ => rfl) ?_
  refine mGet hM rfl rfl ?_
  refine gG.ifc (tgt := 68) rfl rfl (fun c5 => ?_) (fun c5 => four (Or.inr (fun z => c5 (c_ee.mpr z))))
  rw [if_neg (fun z => z.elim (fun z => c4 (c_ee.mpr z)) (fun z => z (c_ee.mp c5)))] at k
  iterate 5 refine gG.step rfl (fun _ => rfl) ?_
  refine mGet hM rfl rfl ?_
  refine gG.step rfl (fun _ => rfl) ?_
  refine mAld (j := 9) (n := 0) hM rfl (by decide) (by decide) rfl (show 0 < 6 by decide) ?_
  refine mVir hM rfl rfl rfl (Nat.le_of_ble_eq_true rfl) rfl rfl (Nat.le_of_ble_eq_true rfl) ?_
  refine m_520 d hM hm hf (show 7 < 14 by decide) _ (fun h hM => ?_)
  iterate 5 refine gG.step rfl (fun _ => rfl) ?_
  refine mGet hM rfl rfl ?_
  refine gG.step rfl (fun _ => rfl) ?_
  refine mAld (j := 9) (n := 1) hM rfl (by decide) (by decide) rfl (show 1 < 6 by decide) ?_
  refine mVir hM rfl rfl rfl (Nat.le_of_ble_eq_true rfl) rfl rfl (Nat.le_of_ble_eq_true rfl) ?_
  refine m_520 d hM hm hf (show 10 < 14 by decide) _ (fun h hM => ?_)
  iterate 5 refine gG.step rfl (fun _ => rfl) ?_
  refine mGet hM rfl rfl ?_
  refine gG.step rfl (fun _ => rfl) ?_
  refine mAld (j := 9) (n := 2) hM rfl (by decide) (by decide) rfl (show 2 < 6 by decide) ?_
  refine mVir hM rfl rfl rfl (Nat.le_of_ble_eq_true rfl) rfl rfl (Nat.le_of_ble_eq_true rfl) ?_
  refine m_520 d hM hm hf (show 11 < 14 by decide) _ (fun h hM => ?_)
  iterate 2 refine gG.step rfl (fun _ => rfl) ?_
  refine mPut hM rfl (by decide) rfl rfl rfl (fun h hM => ?_)
  refine gG.step rfl (fun _ => rfl) ?_
  exact gG.done rfl (fun _ => rfl) (k h hM)
def mReadMarks (t : Nat → Nat → Int32) (m f : Nat) : Int32 × (Nat → Nat → Int32) :=
  if 1 ≤ t 9 0 ∧ t 9 0 ≤ 3 then (if t 8 (fI m f 0) = 0 ∨ ¬ t 8 (fI m f 8) ≤ 0 then (4, t) else (0, mTl t m f 8 (t 9 0))) else (3, t)
theorem m_530 (d : Nat) {b : Nat} {h0 h : im_H} {s : Nat → Int32} {t : Nat → Nat → Int32} (hM : MM b h0 h s t) {m f : Nat} (hm : m < 48) (hf : f < 30) (Q : Option Value → im_H → Prop) (k : ∀ h', MM b h0 h' s (mReadMarks t m f).2 → Q (some (.int (mReadMarks t m f).1)) h') : gC (gD (d + 2)) 530 [.ref b, .int (nI m), .int (nI f)] h Q := by
  refine gC.of (q := me_530.2) rfl (Nat.le_of_ble_eq_true rfl) rfl ?_
  refine gG.step (cd := cd_530) rfl (fun _ => rfl) ?_
  refine mGet hM rfl rfl ?_
  refine gG.step rfl (fun _ => rfl) ?_
  refine mAld (j := 9) (n := 0) hM rfl (by decide) (by decide) rfl (show 0 < 6 by decide) ?_
  iterate 2 refine gG.step rfl (fun _ => rfl) ?_
  refine gG.inv rfl (fun _ => rfl) (Nat.le_of_ble_eq_true rfl) rfl rfl (Nat.le_of_ble_eq_true rfl) ?_
  refine m_514 d _ _ _ _ _ ?_
  show gG _ _ _ _ 11 _ [Value.int (bI (decide (1 ≤ t 9 0 ∧ t 9 0 ≤ 3)))] h Q
  unfold mReadMarks at k
  by_cases h1 : 1 ≤ t 9 0 ∧ t 9 0 ≤ 3
  case neg =>
    rw [if_neg h1] at k
    rw [decide_eq_false h1]
    refine gG.ifc (tgt := 16) rfl rfl (fun c => absurd c (by decide)) (fun _ => ?_)
    refine gG.step rfl (fun _ => rfl) ?_
    exact gG.done rfl (fun _ => rfl) (k h hM)
  case pos =>
  rw [if_pos h1] at k
  rw [decide_eq_true h1]
  refine gG.ifc (tgt := 16) rfl rfl (fun _ => ?_) (fun c => absurd (by decide) c)
  have four : (t 8 (fI m f 0) = 0 ∨ ¬ t 8 (fI m f 8) ≤ 0) → gG tb_T (gD (d + 1)) (some .int) cd_530 37 [some (.ref b), some (.int (nI m)), some (.int (nI f))] [] h Q := by
    intro hz
    rw [if_pos hz] at k
    refine gG.step rfl (fun _ => rfl) ?_
    exact gG.done rfl (fun _ => rfl) (k h hM)
  iterate 4 refine gG.step rfl (fun _ => rfl) ?_
  refine mVir hM rfl rfl rfl (Nat.le_of_ble_eq_true rfl) rfl rfl (Nat.le_of_ble_eq_true rfl) ?_
  refine m_519 d hM hm hf (show 0 < 14 by decide) _ ?_
  show gG _ _ _ _ 23 _ [Value.int (t 8 (fI m f 0))] h Q
  refine gG.ifc (tgt := 37) rfl rfl (fun c => four (Or.inl (c_ee.mp c))) (fun c4 => ?_)
  iterate 4 refine gG.step rfl (fun _ => rfl) ?_
  refine mVir hM rfl rfl rfl (Nat.le_of_ble_eq_true rfl) rfl rfl (Nat.le_of_ble_eq_true rfl) ?_
  refine m_519 d hM hm hf (show 8 < 14 by decide) _ ?_
  show gG _ _ _ _ 34 _ [Value.int (t 8 (fI m f 8))] h Q
  refine gG.ifc (tgt := 39) rfl rfl (fun c5 => ?_) (fun c5 => four (Or.inr (fun z => c5 (decide_eq_true z))))
  rw [if_neg (fun z => z.elim (fun z => c4 (c_ee.mpr z)) (fun z => z (of_decide_eq_true c5)))] at k
  iterate 5 refine gG.step rfl (fun _ => rfl) ?_
  refine mGet hM rfl rfl ?_
  refine gG.step rfl (fun _ => rfl) ?_
  refine mAld (j := 9) (n := 0) hM rfl (by decide) (by decide) rfl (show 0 < 6 by decide) ?_
  refine mVir hM rfl rfl rfl (Nat.le_of_ble_eq_true rfl) rfl rfl (Nat.le_of_ble_eq_true rfl) ?_
  refine m_520 d hM hm hf (show 8 < 14 by decide) _ (fun h hM => ?_)
  refine gG.step rfl (fun _ => rfl) ?_
  exact gG.done rfl (fun _ => rfl) (k h hM)
def mCurP (t : Nat → Nat → Int32) (m k : Nat) : Bool := !decide (t 8 (fI m k 9) ≤ 0)
def mReadCur (t : Nat → Nat → Int32) (m f : Nat) : Int32 × (Nat → Nat → Int32) := match sr (mCurP t m) (f + 1) 0 with
  | some _ => (4, t)
  | none => (0, mTl t m f 9 1)
theorem m_531 (d : Nat) {b : Nat} {h0 h : im_H} {s : Nat → Int32} {t : Nat → Nat → Int32} (hM : MM b h0 h s t) {m f : Nat} (hm : m < 48) (hf : f < 30) (Q : Option Value → im_H → Prop) (k : ∀ h', MM b h0 h' s (mReadCur t m f).2 → Q (some (.int (mReadCur t m f).1)) h') : gC (gD (d + 2)) 531 [.ref b, .int (nI m), .int (nI f)] h Q := by
  refine gC.of (q := me_531.2) rfl (Nat.le_of_ble_eq_true rfl) rfl ?_
  iterate 2 refine gG.step (cd := cd_531) rfl (fun _ => rfl) ?_
  unfold mReadCur at k
  have key : ∀ r i : Nat, i + r = f + 1 → sr (mCurP t m) r i = sr (mCurP t m) (f + 1) 0 → gG tb_T (gD (d + 1)) (some .int) cd_531 2 [some (.ref b), some (.int (nI m)), some (.int (nI f)), some (.int (nI i))] [] h Q := by
    intro r
    induction r with
    | zero =>
      intro i hi he
      rw [← he] at k
      iterate 2 refine gG.step rfl (fun _ => rfl) ?_
      refine gG.icmp (tgt := 26) rfl rfl (fun _ => ?_) (fun c => absurd ((c_gt (by omega) (by omega)).mpr (by omega)) c)
      iterate 5 refine gG.step rfl (fun _ => rfl) ?_
      refine mVir hM rfl rfl rfl (Nat.le_of_ble_eq_true rfl) rfl rfl (Nat.le_of_ble_eq_true rfl) ?_
      refine m_520 d hM hm hf (show 9 < 14 by decide) _ (fun h hM => ?_)
      refine gG.step rfl (fun _ => rfl) ?_
      exact gG.done rfl (fun _ => rfl) (k h hM)
    | succ r ih =>
      intro i hi he
      iterate 2 refine gG.step rfl (fun _ => rfl) ?_
      refine gG.icmp (tgt := 26) rfl rfl (fun c => absurd ((c_gt (by omega) (by omega)).mp c) (by omega)) (fun _ => ?_)
      iterate 4 refine gG.step rfl (fun _ => rfl) ?_
      refine mVir hM rfl rfl rfl (Nat.le_of_ble_eq_true rfl) rfl rfl (Nat.le_of_ble_eq_true rfl) ?_
      refine m_519 d hM hm (by omega) (show 9 < 14 by decide) _ ?_
      show gG _ _ _ _ 15 _ [Value.int (t 8 (fI m i 9))] h Q
      rw [sr] at he
      refine gG.ifc (tgt := 20) rfl rfl (fun c => ?_) (fun c => ?_)
      · have hp : ¬ mCurP t m i = true := by
          unfold mCurP
          rw [decide_eq_true (of_decide_eq_true c : t 8 (fI m i 9) ≤ 0)]
          decide
        rw [if_neg hp] at he
        refine gG.step rfl (fun _ => rfl) ?_
        refine gG.goto (tgt := 2) rfl rfl ?_
        have ih1 := ih (i + 1) (by omega) he
        rw [← nI_1 i] at ih1
        exact ih1
      · have hp : mCurP t m i = true := by
          unfold mCurP
          rw [decide_eq_false (fun z => c (decide_eq_true z) : ¬ t 8 (fI m i 9) ≤ 0)]
          rfl
        rw [if_pos hp] at he
        rw [← he] at k
        refine gG.step rfl (fun _ => rfl) ?_
        exact gG.done rfl (fun _ => rfl) (k h hM)
  exact key (f + 1) 0 (by omega) rfl
def mReadTxt (s : Nat → Int32) (t : Nat → Nat → Int32) (m f : Nat) : Int32 × (Nat → Nat → Int32) :=
  if s 18 - s 17 ≤ t 8 (fI m f 3) then (if t 8 (fI m f 13) ≤ 0 then (0, mTl (mTl t m f 12 (3000 * s 10 + s 17)) m f 13 (s 18 - s 17)) else (4, t)) else (1, t)
theorem m_532 (d : Nat) {b : Nat} {h0 h : im_H} {s : Nat → Int32} {t : Nat → Nat → Int32} (hM : MM b h0 h s t) {m f : Nat} (hm : m < 48) (hf : f < 30) (Q : Option Value → im_H → Prop) (k : ∀ h', MM b h0 h' s (mReadTxt s t m f).2 → Q (some (.int (mReadTxt s t m f).1)) h') : gC (gD (d + 2)) 532 [.ref b, .int (nI m), .int (nI f)] h Q := by
  refine gC.of (q := me_532.2) rfl (Nat.le_of_ble_eq_true rfl) rfl ?_
  refine gG.step (cd := cd_532) rfl (fun _ => rfl) ?_
  refine mGet hM rfl rfl ?_
  refine gG.step rfl (fun _ => rfl) ?_
  refine mGet hM rfl rfl ?_
  iterate 5 refine gG.step rfl (fun _ => rfl) ?_
  refine mVir hM rfl rfl rfl (Nat.le_of_ble_eq_true rfl) rfl rfl (Nat.le_of_ble_eq_true rfl) ?_
  refine m_519 d hM hm hf (show 3 < 14 by decide) _ ?_
  show gG _ _ _ _ 16 _ [Value.int (t 8 (fI m f 3)), Value.int (s 18 - s 17)] h Q
  unfold mReadTxt at k
  refine gG.icmp (tgt := 21) rfl rfl (fun c => ?_) (fun c => ?_)
  · rw [if_pos (of_decide_eq_true c)] at k
    iterate 4 refine gG.step rfl (fun _ => rfl) ?_
    refine mVir hM rfl rfl rfl (Nat.le_of_ble_eq_true rfl) rfl rfl (Nat.le_of_ble_eq_true rfl) ?_
    refine m_519 d hM hm hf (show 13 < 14 by decide) _ ?_
    show gG _ _ _ _ 29 _ [Value.int (t 8 (fI m f 13))] h Q
    refine gG.ifc (tgt := 34) rfl rfl (fun c => ?_) (fun c => ?_)
    · rw [if_pos (of_decide_eq_true c)] at k
      iterate 6 refine gG.step rfl (fun _ => rfl) ?_
      refine mGet hM rfl rfl ?_
      iterate 2 refine gG.step rfl (fun _ => rfl) ?_
      refine mGet hM rfl rfl ?_
      refine gG.step rfl (fun _ => rfl) ?_
      refine mVir hM rfl rfl rfl (Nat.le_of_ble_eq_true rfl) rfl rfl (Nat.le_of_ble_eq_true rfl) ?_
      refine m_520 d hM hm hf (show 12 < 14 by decide) _ (fun h hM => ?_)
      iterate 5 refine gG.step rfl (fun _ => rfl) ?_
      refine mGet hM rfl rfl ?_
      refine gG.step rfl (fun _ => rfl) ?_
      refine mGet hM rfl rfl ?_
      refine gG.step rfl (fun _ => rfl) ?_
      refine mVir hM rfl rfl rfl (Nat.le_of_ble_eq_true rfl) rfl rfl (Nat.le_of_ble_eq_true rfl) ?_
      refine m_520 d hM hm hf (show 13 < 14 by decide) _ (fun h hM => ?_)
      refine gG.step rfl (fun _ => rfl) ?_
      exact gG.done rfl (fun _ => rfl) (k h hM)
    · rw [if_neg (fun z => c (decide_eq_true z))] at k
      refine gG.step rfl (fun _ => rfl) ?_
      exact gG.done rfl (fun _ => rfl) (k h hM)
  · rw [if_neg (fun z => c (decide_eq_true z))] at k
    refine gG.step rfl (fun _ => rfl) ?_
    exact gG.done rfl (fun _ => rfl) (k h hM)
/-- the latest map of the text that is read -/
def mLast (s : Nat → Int32) (t : Nat → Nat → Int32) : Option Nat := if t 3 (nv (s 10)) = 0 then none else some (8 * nv (s 10) + nv (t 3 (nv (s 10))) - 1)
/-- a line -/
def mLine (s : Nat → Int32) (t : Nat → Nat → Int32) (p q : Nat) : Int32 × (Nat → Int32) × (Nat → Nat → Int32) :=
  let z := mCut s t p q
  if z.1 ≤ 0 then ((if z.1 = 0 then 0 else 1), z.2) else
  if z.1 = 77 then ((mReadMap z.2.1 z.2.2).1, z.2.1, (mReadMap z.2.1 z.2.2).2) else
  if z.1 = 70 then (let y := mReadField z.2.1 z.2.2 (mLast z.2.1 z.2.2); (y.1, (if y.1 = 0 then upd y.2.1 27 0 else y.2.1), y.2.2)) else
  match mLast z.2.1 z.2.2 with
  | none => (2, z.2)
  | some m => if z.2.2 7 m = 0 then (2, z.2) else
    let f := nv (z.2.2 7 m) - 1
    if z.1 = 79 then mReadTimes z.2.1 z.2.2 m f else
    if z.1 = 71 then ((mReadGroup z.2.2 m f).1, z.2.1, (mReadGroup z.2.2 m f).2) else
    if z.1 = 80 then mReadPic z.2.1 z.2.2 m f else
    if z.1 = 86 then ((mReadMarks z.2.2 m f).1, z.2.1, (mReadMarks z.2.2 m f).2) else
    if z.1 = 67 then ((mReadCur z.2.2 m f).1, z.2.1, (mReadCur z.2.2 m f).2) else
    ((mReadTxt z.2.1 z.2.2 m f).1, z.2.1, (mReadTxt z.2.1 z.2.2 m f).2)
theorem mCut_10 (s : Nat → Int32) (t : Nat → Nat → Int32) (p q : Nat) : (mCut s t p q).2.1 10 = s 10 := by
  unfold mCut
  dsimp only
  split
  · rfl
  · split <;> rfl
theorem mCut_t (s : Nat → Int32) (t : Nat → Nat → Int32) (p q : Nat) {j : Nat} (hj : j ≠ 9) : (mCut s t p q).2.2 j = t j := by
  unfold mCut
  dsimp only
  split
  · rfl
  · split
    · rfl
    · exact va_up_ne _ _ hj
