def mTl (t : Nat → Nat → Int32) (m f w : Nat) (v : Int32) : Nat → Nat → Int32 := va_up t 8 (upd (t 8) (fI m f w) v)
theorem mLies_f {s : Nat → Int32} {t : Nat → Nat → Int32} {m : Nat} {but row lo hi : Int32} (h : (mLies s t m but row lo hi).1 = false) : (mLies s t m but row lo hi).2 = s := by
  unfold mLies at h ⊢
  split at h
  · rename_i hc
    rw [if_pos hc]
    cases ho : mOvrO t m but row lo hi with
    | none => rfl
    | some o => rw [ho] at h; cases h
  · cases h
def mReadTimes (s : Nat → Int32) (t : Nat → Nat → Int32) (m f : Nat) : Int32 × (Nat → Int32) × (Nat → Nat → Int32) :=
  if 1 ≤ t 9 0 ∧ t 9 0 ≤ 20 then (if t 8 (fI m f 0) = 0 ∨ ¬ s 27 = 0 then (4, s, t) else
    let z := mLies s t m (nI f) (t 8 (fI m f 1)) (t 8 (fI m f 2)) (t 8 (fI m f 2) + (t 8 (fI m f 3) + 1) * t 9 0)
    if z.1 = true then (4, z.2, t) else (0, upd s 27 1, mTl t m f 5 (t 9 0))) else (3, s, t)
theorem m_527 (d : Nat) {b : Nat} {h0 h : im_H} {s : Nat → Int32} {t : Nat → Nat → Int32} (hM : MM b h0 h s t) {m f : Nat} (hm : m < 48) (hf : f < 30) (hp : ps (t 7 m) 30) (Q : Option Value → im_H → Prop) (k : ∀ h', MM b h0 h' (mReadTimes s t m f).2.1 (mReadTimes s t m f).2.2 → Q (some (.int (mReadTimes s t m f).1)) h') : gC (gD (d + 4)) 527 [.ref b, .int (nI m), .int (nI f)] h Q := by
  refine gC.of (q := me_527.2) rfl (Nat.le_of_ble_eq_true rfl) rfl ?_
  refine gG.step (cd := cd_527) rfl (fun _ => rfl) ?_
  refine mGet hM rfl rfl ?_
  refine gG.step rfl (fun _ => rfl) ?_
  refine mAld (j := 9) (n := 0) hM rfl (by decide) (by decide) rfl (show 0 < 6 by decide) ?_
  iterate 2 refine gG.step rfl (fun _ => rfl) ?_
  refine gG.inv rfl (fun _ => rfl) (Nat.le_of_ble_eq_true rfl) rfl rfl (Nat.le_of_ble_eq_true rfl) ?_
  refine m_514 (d + 2) _ _ _ _ _ ?_
  show gG _ _ _ _ 12 _ [Value.int (bI (decide (1 ≤ t 9 0 ∧ t 9 0 ≤ 20)))] h Q
  unfold mReadTimes at k
  by_cases h1 : 1 ≤ t 9 0 ∧ t 9 0 ≤ 20
  case neg =>
    rw [if_neg h1] at k
    rw [decide_eq_false h1]
    refine gG.ifc (tgt := 17) rfl rfl (fun c => absurd c (by decide)) (fun _ => ?_)
    refine gG.step rfl (fun _ => rfl) ?_
    exact gG.done rfl (fun _ => rfl) (k h hM)
  case pos =>
  rw [if_pos h1] at k
  rw [decide_eq_true h1]
  refine gG.ifc (tgt := 17) rfl rfl (fun _ => ?_) (fun c => absurd (by decide) c)
  iterate 4 refine gG.step rfl (fun _ => rfl) ?_
  refine mVir hM rfl rfl rfl (Nat.le_of_ble_eq_true rfl) rfl rfl (Nat.le_of_ble_eq_true rfl) ?_
  refine m_519 (d + 2) hM hm hf (show 2 < 14 by decide) _ ?_
  show gG _ _ _ _ 24 _ [Value.int (t 8 (fI m f 2))] h Q
  refine gG.step (L' := [some (.ref b), some (.int (nI m)), some (.int (nI f)), some (.int (t 8 (fI m f 2)))]) rfl (fun _ => rfl) ?_
  iterate 4 refine gG.step rfl (fun _ => rfl) ?_
  refine mVir hM rfl rfl rfl (Nat.le_of_ble_eq_true rfl) rfl rfl (Nat.le_of_ble_eq_true rfl) ?_
  refine m_519 (d + 2) hM hm hf (show 0 < 14 by decide) _ ?_
  show gG _ _ _ _ 32 _ [Value.int (t 8 (fI m f 0))] h Q
  have four : (t 8 (fI m f 0) = 0 ∨ ¬ s 27 = 0) → gG tb_T (gD (d + 3)) (some .int) cd_527 76 [some (.ref b), some (.int (nI m)), some (.int (nI f)), some (.int (t 8 (fI m f 2)))] [] h Q := by
    intro hz
    rw [if_pos hz] at k
    refine gG.step rfl (fun _ => rfl) ?_
    exact gG.done rfl (fun _ => rfl) (k h hM)
  refine gG.ifc (tgt := 76) rfl rfl (fun c => four (Or.inl (c_ee.mp c))) (fun c1 => ?_)
  refine gG.step rfl (fun _ => rfl) ?_
  refine mGet hM rfl rfl ?_
  refine gG.ifc (tgt := 76) rfl rfl (fun c => four (Or.inr (c_ne.mp c))) (fun c2 => ?_)
  rw [if_neg (fun z => z.elim (fun z => c1 (c_ee.mpr z)) (fun z => c2 (c_ne.mpr z)))] at k
  dsimp only at k
  iterate 7 refine gG.step rfl (fun _ => rfl) ?_
  refine mVir hM rfl rfl rfl (Nat.le_of_ble_eq_true rfl) rfl rfl (Nat.le_of_ble_eq_true rfl) ?_
  refine m_519 (d + 2) hM hm hf (show 1 < 14 by decide) _ ?_
  show gG _ _ _ _ 52 _ [Value.int (t 8 (fI m f 1)), Value.int (nI f), Value.int (nI m), Value.ref b] h Q
  iterate 6 refine gG.step rfl (fun _ => rfl) ?_
  refine mVir hM rfl rfl rfl (Nat.le_of_ble_eq_true rfl) rfl rfl (Nat.le_of_ble_eq_true rfl) ?_
  refine m_519 (d + 2) hM hm hf (show 3 < 14 by decide) _ ?_
  show gG _ _ _ _ 61 _ [Value.int (t 8 (fI m f 3)), Value.int (t 8 (fI m f 2)), Value.int (t 8 (fI m f 2)), Value.int (t 8 (fI m f 1)), Value.int (nI f), Value.int (nI m), Value.ref b] h Q
  refine gG.step rfl (fun _ => rfl) ?_
  refine mGet hM rfl rfl ?_
  refine gG.step rfl (fun _ => rfl) ?_
  refine mAld (j := 9) (n := 0) hM rfl (by decide) (by decide) rfl (show 0 < 6 by decide) ?_
  refine gG.inv rfl (fun _ => rfl) (Nat.le_of_ble_eq_true rfl) rfl rfl (Nat.le_of_ble_eq_true rfl) ?_
  refine m_522 (d + 2) _ _ _ _ _ ?_
  show gG _ _ _ _ 70 _ [Value.int (t 8 (fI m f 2) + (t 8 (fI m f 3) + 1) * t 9 0), Value.int (t 8 (fI m f 2)), Value.int (t 8 (fI m f 1)), Value.int (nI f), Value.int (nI m), Value.ref b] h Q
  refine mVir hM rfl rfl rfl (Nat.le_of_ble_eq_true rfl) rfl rfl (Nat.le_of_ble_eq_true rfl) ?_
  refine m_524 d hM hm hp _ (fun h hM => ?_)
  show gG _ _ _ _ 73 _ [Value.int (bI (mLies s t m (nI f) (t 8 (fI m f 1)) (t 8 (fI m f 2)) (t 8 (fI m f 2) + (t 8 (fI m f 3) + 1) * t 9 0)).1)] h Q
  cases hb : (mLies s t m (nI f) (t 8 (fI m f 1)) (t 8 (fI m f 2)) (t 8 (fI m f 2) + (t 8 (fI m f 3) + 1) * t 9 0)).1 with
  | true =>
    rw [if_pos hb] at k
    refine gG.ifc (tgt := 78) rfl rfl (fun c => absurd c (by decide)) (fun _ => ?_)
    refine gG.step rfl (fun _ => rfl) ?_
    exact gG.done rfl (fun _ => rfl) (k h hM)
  | false =>
    rw [if_neg (by rw [hb]; decide)] at k
    rw [mLies_f hb] at hM
    refine gG.ifc (tgt := 78) rfl rfl (fun _ => ?_) (fun c => absurd (by decide) c)
    iterate 5 refine gG.step rfl (fun _ => rfl) ?_
    refine mGet hM rfl rfl ?_
    refine gG.step rfl (fun _ => rfl) ?_
    refine mAld (j := 9) (n := 0) hM rfl (by decide) (by decide) rfl (show 0 < 6 by decide) ?_
    refine mVir hM rfl rfl rfl (Nat.le_of_ble_eq_true rfl) rfl rfl (Nat.le_of_ble_eq_true rfl) ?_
    refine m_520 (d + 2) hM hm hf (show 5 < 14 by decide) _ (fun h hM => ?_)
    iterate 2 refine gG.step rfl (fun _ => rfl) ?_
    refine mPut hM rfl (by decide) rfl rfl rfl (fun h hM => ?_)
    refine gG.step rfl (fun _ => rfl) ?_
    exact gG.done rfl (fun _ => rfl) (k h hM)
/-- the last field of a group ahead of f -/
def mBf (t : Nat → Nat → Int32) (m : Nat) (g : Int32) : Nat → Option Nat
  | 0 => none
  | k + 1 => if t 8 (fI m k 6) = g then some k else mBf t m g k
theorem mBf_lt {t : Nat → Nat → Int32} {m : Nat} {g : Int32} : ∀ {n q : Nat}, mBf t m g n = some q → q < n
  | 0, _, h => by cases h
  | n + 1, q, h => by
    rw [mBf] at h
    split at h
    · cases h; omega
    · have := mBf_lt h; omega
def mPart (t : Nat → Nat → Int32) (m f : Nat) (o : Option Nat) : Bool := match o with
  | none => false
  | some q => !decide (t 8 (fI m q 1) = t 8 (fI m f 1) ∧ t 8 (fI m q 2) + (t 8 (fI m q 3) + 1) * t 8 (fI m q 5) = t 8 (fI m f 2))
def mReadGroup (t : Nat → Nat → Int32) (m f : Nat) : Int32 × (Nat → Nat → Int32) :=
  if 1 ≤ t 9 0 ∧ t 9 0 ≤ 99 then (if mPart t m f (mBf t m (t 9 0) f) = true ∨ t 8 (fI m f 0) = 0 ∨ ¬ t 8 (fI m f 6) ≤ 0 then (4, t) else (0, mTl t m f 6 (t 9 0))) else (3, t)
theorem m_528 (d : Nat) {b : Nat} {h0 h : im_H} {s : Nat → Int32} {t : Nat → Nat → Int32} (hM : MM b h0 h s t) {m f : Nat} (hm : m < 48) (hf : f < 30) (Q : Option Value → im_H → Prop) (k : ∀ h', MM b h0 h' s (mReadGroup t m f).2 → Q (some (.int (mReadGroup t m f).1)) h') : gC (gD (d + 2)) 528 [.ref b, .int (nI m), .int (nI f)] h Q := by
  refine gC.of (q := me_528.2) rfl (Nat.le_of_ble_eq_true rfl) rfl ?_
  refine gG.step (cd := cd_528) rfl (fun _ => rfl) ?_
  refine mGet hM rfl rfl ?_
  refine gG.step rfl (fun _ => rfl) ?_
  refine mAld (j := 9) (n := 0) hM rfl (by decide) (by decide) rfl (show 0 < 6 by decide) ?_
  iterate 2 refine gG.step rfl (fun _ => rfl) ?_
  refine gG.inv rfl (fun _ => rfl) (Nat.le_of_ble_eq_true rfl) rfl rfl (Nat.le_of_ble_eq_true rfl) ?_
  refine m_514 d _ _ _ _ _ ?_
  show gG _ _ _ _ 12 _ [Value.int (bI (decide (1 ≤ t 9 0 ∧ t 9 0 ≤ 99)))] h Q
  unfold mReadGroup at k
  by_cases h1 : 1 ≤ t 9 0 ∧ t 9 0 ≤ 99
  case neg =>
    rw [if_neg h1] at k
    rw [decide_eq_false h1]
    refine gG.ifc (tgt := 17) rfl rfl (fun c => absurd c (by decide)) (fun _ => ?_)
    refine gG.step rfl (fun _ => rfl) ?_
    exact gG.done rfl (fun _ => rfl) (k h hM)
  case pos =>
  rw [if_pos h1] at k
  rw [decide_eq_true h1]
  refine gG.ifc (tgt := 17) rfl rfl (fun _ => ?_) (fun c => absurd (by decide) c)
  iterate 4 refine gG.step rfl (fun _ => rfl) ?_
  have key : ∀ r i : Nat, i + r = f → gG tb_T (gD (d + 1)) (some .int) cd_528 55 [some (.ref b), some (.int (nI m)), some (.int (nI f)), some (.int (oI (mBf t m (t 9 0) f))), some (.int (nI f))] [] h Q → gG tb_T (gD (d + 1)) (some .int) cd_528 22 [some (.ref b), some (.int (nI m)), some (.int (nI f)), some (.int (oI (mBf t m (t 9 0) i))), some (.int (nI i))] [] h Q := by
    intro r
    induction r with
    | zero =>
      intro i hi nx
      have hi : i = f := by omega
      subst hi
      iterate 2 refine gG.step rfl (fun _ => rfl) ?_
      refine gG.icmp (tgt := 55) rfl rfl (fun _ => nx) (fun c => absurd ((c_ge (by omega) (by omega)).mpr (by omega)) c)
    | succ r ih =>
      intro i hi nx
      have ih1 := ih (i + 1) (by omega) nx
      rw [← nI_1 i, mBf] at ih1
      iterate 2 refine gG.step rfl (fun _ => rfl) ?_
      refine gG.icmp (tgt := 55) rfl rfl (fun c => absurd ((c_ge (by omega) (by omega)).mp c) (by omega)) (fun _ => ?_)
      iterate 4 refine gG.step rfl (fun _ => rfl) ?_
      refine mVir hM rfl rfl rfl (Nat.le_of_ble_eq_true rfl) rfl rfl (Nat.le_of_ble_eq_true rfl) ?_
      refine m_519 d hM hm (by omega) (show 6 < 14 by decide) _ ?_
      show gG _ _ _ _ 37 _ [Value.int (t 8 (fI m i 6))] h Q
      refine gG.step rfl (fun _ => rfl) ?_
      refine mGet hM rfl rfl ?_
      refine gG.step rfl (fun _ => rfl) ?_
      refine mAld (j := 9) (n := 0) hM rfl (by decide) (by decide) rfl (show 0 < 6 by decide) ?_
      refine gG.icmp (tgt := 49) rfl rfl (fun c => ?_) (fun c => ?_)
      · rw [if_neg (c_ne.mp c)] at ih1
        refine gG.step rfl (fun _ => rfl) ?_
        refine gG.goto (tgt := 22) rfl rfl ?_
        exact ih1
      · rw [if_pos (Decidable.not_not.mp (fun z => c (c_ne.mpr z)))] at ih1
        refine gG.step rfl (fun _ => rfl) ?_
        refine gG.step (L' := [some (.ref b), some (.int (nI m)), some (.int (nI f)), some (.int (nI i)), some (.int (nI i))]) rfl (fun _ => rfl) ?_
        refine gG.step rfl (fun _ => rfl) ?_
        refine gG.goto (tgt := 22) rfl rfl ?_
        exact ih1
  refine key f 0 (by omega) ?_
  have hbl : ∀ q, mBf t m (t 9 0) f = some q → q < 30 := fun q hq => by have := mBf_lt hq; omega
  generalize mBf t m (t 9 0) f = o at k hbl ⊢
  have at115 : ∀ (x : Bool), x = mPart t m f o → gG tb_T (gD (d + 1)) (some .int) cd_528 115 [some (.ref b), some (.int (nI m)), some (.int (nI f)), some (.int (oI o)), some (.int (nI f))] [.int (bI x)] h Q := by
    intro x hx
    rw [← hx] at k
    refine gG.step (L' := [some (.ref b), some (.int (nI m)), some (.int (nI f)), some (.int (oI o)), some (.int (bI x))]) rfl (fun _ => rfl) ?_
    have four : (x = true ∨ t 8 (fI m f 0) = 0 ∨ ¬ t 8 (fI m f 6) ≤ 0) → gG tb_T (gD (d + 1)) (some .int) cd_528 143 [some (.ref b), some (.int (nI m)), some (.int (nI f)), some (.int (oI o)), some (.int (bI x))] [] h Q := by
      intro hz
      rw [if_pos hz] at k
      refine gG.step rfl (fun _ => rfl) ?_
      exact gG.done rfl (fun _ => rfl) (k h hM)
    refine gG.step rfl (fun _ => rfl) ?_
    cases hx2 : x with
    | true =>
      rw [hx2] at four
      refine gG.ifc (tgt := 143) rfl rfl (fun _ => four (Or.inl rfl)) (fun c => absurd (by decide) c)
    | false =>
      rw [hx2] at four k
      refine gG.ifc (tgt := 143) rfl rfl (fun c => absurd c (by decide)) (fun _ => ?_)
      iterate 4 refine gG.step rfl (fun _ => rfl) ?_
      refine mVir hM rfl rfl rfl (Nat.le_of_ble_eq_true rfl) rfl rfl (Nat.le_of_ble_eq_true rfl) ?_
      refine m_519 d hM hm hf (show 0 < 14 by decide) _ ?_
      show gG _ _ _ _ 129 _ [Value.int (t 8 (fI m f 0))] h Q
      refine gG.ifc (tgt := 143) rfl rfl (fun c => four (Or.inr (Or.inl (c_ee.mp c)))) (fun c1 => ?_)
      iterate 4 refine gG.step rfl (fun _ => rfl) ?_
      refine mVir hM rfl rfl rfl (Nat.le_of_ble_eq_true rfl) rfl rfl (Nat.le_of_ble_eq_true rfl) ?_
      refine m_519 d hM hm hf (show 6 < 14 by decide) _ ?_
      show gG _ _ _ _ 140 _ [Value.int (t 8 (fI m f 6))] h Q
      refine gG.ifc (tgt := 145) rfl rfl (fun c2 => ?_) (fun c2 => four (Or.inr (Or.inr (fun z => c2 (decide_eq_true z)))))
      rw [if_neg (fun z => z.elim (fun z => by cases z) (fun z => z.elim (fun z => c1 (c_ee.mpr z)) (fun z => z (of_decide_eq_true c2))))] at k
      iterate 5 refine gG.step rfl (fun _ => rfl) ?_
      refine mGet hM rfl rfl ?_
      refine gG.step rfl (fun _ => rfl) ?_
      refine mAld (j := 9) (n := 0) hM rfl (by decide) (by decide) rfl (show 0 < 6 by decide) ?_
      refine mVir hM rfl rfl rfl (Nat.le_of_ble_eq_true rfl) rfl rfl (Nat.le_of_ble_eq_true rfl) ?_
      refine m_520 d hM hm hf (show 6 < 14 by decide) _ (fun h hM => ?_)
      refine gG.step rfl (fun _ => rfl) ?_
      exact gG.done rfl (fun _ => rfl) (k h hM)
  refine gG.step rfl (fun _ => rfl) ?_
  cases o with
  | none =>
    refine gG.ifc (tgt := 114) rfl rfl (fun _ => ?_) (fun c => absurd (by decide) c)
    refine gG.step rfl (fun _ => rfl) ?_
    exact at115 false rfl
  | some q =>
    have hq := hbl q rfl
    refine gG.ifc (tgt := 114) rfl rfl (fun c => absurd c (c_ltn (by omega))) (fun _ => ?_)
    iterate 4 refine gG.step rfl (fun _ => rfl) ?_
    refine mVir hM rfl rfl rfl (Nat.le_of_ble_eq_true rfl) rfl rfl (Nat.le_of_ble_eq_true rfl) ?_
    refine m_519 d hM hm hq (show 1 < 14 by decide) _ ?_
    show gG _ _ _ _ 66 _ [Value.int (t 8 (fI m q 1))] h Q
    iterate 4 refine gG.step rfl (fun _ => rfl) ?_
    refine mVir hM rfl rfl rfl (Nat.le_of_ble_eq_true rfl) rfl rfl (Nat.le_of_ble_eq_true rfl) ?_
    refine m_519 d hM hm hf (show 1 < 14 by decide) _ ?_
    show gG _ _ _ _ 73 _ [Value.int (t 8 (fI m f 1)), Value.int (t 8 (fI m q 1))] h Q
    refine gG.icmp (tgt := 110) rfl rfl (fun c => ?_) (fun c1 => ?_)
    · refine gG.step rfl (fun _ => rfl) ?_
      refine gG.goto (tgt := 115) rfl rfl ?_
      refine at115 true ?_
      unfold mPart
      dsimp only
      rw [decide_eq_false (fun z => c_ne.mp c z.1)]
      rfl
    · iterate 4 refine gG.step rfl (fun _ => rfl) ?_
      refine mVir hM rfl rfl rfl (Nat.le_of_ble_eq_true rfl) rfl rfl (Nat.le_of_ble_eq_true rfl) ?_
      refine m_519 d hM hm hq (show 2 < 14 by decide) _ ?_
      show gG _ _ _ _ 83 _ [Value.int (t 8 (fI m q 2))] h Q
      iterate 4 refine gG.step rfl (fun _ => rfl) ?_
      refine mVir hM rfl rfl rfl (Nat.le_of_ble_eq_true rfl) rfl rfl (Nat.le_of_ble_eq_true rfl) ?_
      refine m_519 d hM hm hq (show 3 < 14 by decide) _ ?_
      show gG _ _ _ _ 90 _ [Value.int (t 8 (fI m q 3)), Value.int (t 8 (fI m q 2))] h Q
      iterate 4 refine gG.step rfl (fun _ => rfl) ?_
      refine mVir hM rfl rfl rfl (Nat.le_of_ble_eq_true rfl) rfl rfl (Nat.le_of_ble_eq_true rfl) ?_
      refine m_519 d hM hm hq (show 5 < 14 by decide) _ ?_
      show gG _ _ _ _ 97 _ [Value.int (t 8 (fI m q 5)), Value.int (t 8 (fI m q 3)), Value.int (t 8 (fI m q 2))] h Q
      refine gG.inv rfl (fun _ => rfl) (Nat.le_of_ble_eq_true rfl) rfl rfl (Nat.le_of_ble_eq_true rfl) ?_
      refine m_522 d _ _ _ _ _ ?_
      show gG _ _ _ _ 100 _ [Value.int (t 8 (fI m q 2) + (t 8 (fI m q 3) + 1) * t 8 (fI m q 5))] h Q
      iterate 4 refine gG.step rfl (fun _ => rfl) ?_
      refine mVir hM rfl rfl rfl (Nat.le_of_ble_eq_true rfl) rfl rfl (Nat.le_of_ble_eq_true rfl) ?_
      refine m_519 d hM hm hf (show 2 < 14 by decide) _ ?_
      show gG _ _ _ _ 107 _ [Value.int (t 8 (fI m f 2)), Value.int (t 8 (fI m q 2) + (t 8 (fI m q 3) + 1) * t 8 (fI m q 5))] h Q
      refine gG.icmp (tgt := 114) rfl rfl (fun c => ?_) (fun c => ?_)
      · refine gG.step rfl (fun _ => rfl) ?_
        refine at115 false ?_
        unfold mPart
        dsimp only
        rw [decide_eq_true ⟨Decidable.not_not.mp (fun z => c1 (c_ne.mpr z)), c_ee.mp c⟩]
        rfl
      · refine gG.step rfl (fun _ => rfl) ?_
        refine gG.goto (tgt := 115) rfl rfl ?_
        refine at115 true ?_
        unfold mPart
        dsimp only
        rw [decide_eq_false (fun z => c (c_ee.mpr z.2))]
        rfl
