def mLies (s : Nat → Int32) (t : Nat → Nat → Int32) (m : Nat) (but row lo hi : Int32) : Bool × (Nat → Int32) := if hi - 1 ≤ t 6 m then (match mOvrO t m but row lo hi with
  | none => (false, s)
  | some o => (true, upd (upd s 13 (nI o)) 14 but)) else (true, s)
theorem m_524 (d : Nat) {b : Nat} {h0 h : im_H} {s : Nat → Int32} {t : Nat → Nat → Int32} (hM : MM b h0 h s t) {m : Nat} {but row lo hi : Int32} (hm : m < 48) (hp : ps (t 7 m) 30) (Q : Option Value → im_H → Prop) (k : ∀ h', MM b h0 h' (mLies s t m but row lo hi).2 t → Q (some (.int (bI (mLies s t m but row lo hi).1))) h') : gC (gD (d + 3)) 524 [.ref b, .int (nI m), .int but, .int row, .int lo, .int hi] h Q := by
  refine gC.of (q := me_524.2) rfl (Nat.le_of_ble_eq_true rfl) rfl ?_
  iterate 4 refine gG.step (cd := cd_524) rfl (fun _ => rfl) ?_
  refine mGet hM rfl rfl ?_
  refine gG.step rfl (fun _ => rfl) ?_
  refine mAld (j := 6) (n := m) hM rfl (by decide) (by decide) rfl (show m < 48 from hm) ?_
  unfold mLies at k
  refine gG.icmp (tgt := 15) rfl rfl (fun c => ?_) (fun c => ?_)
  · rw [if_pos (show hi - 1 ≤ t 6 m from of_decide_eq_true c)] at k
    iterate 6 refine gG.step rfl (fun _ => rfl) ?_
    refine mVir hM rfl rfl rfl (Nat.le_of_ble_eq_true rfl) rfl rfl (Nat.le_of_ble_eq_true rfl) ?_
    refine m_523' d hM hm hp _ ?_
    show gG _ _ _ _ 26 _ [Value.int (oI (mOvrO t m but row lo hi))] h Q
    cases ho : mOvrO t m but row lo hi with
    | none =>
      rw [ho] at k
      iterate 2 refine gG.step rfl (fun _ => rfl) ?_
      refine gG.ifc (tgt := 35) rfl rfl (fun c => absurd c (by decide)) (fun _ => ?_)
      refine gG.step rfl (fun _ => rfl) ?_
      exact gG.done rfl (fun _ => rfl) (k h hM)
    | some o =>
      rw [ho] at k
      dsimp only at k
      have ho30 : o < 30 := by have h1 := (mOvrO_some ho).1; have h2 := hp.2; omega
      iterate 2 refine gG.step rfl (fun _ => rfl) ?_
      refine gG.ifc (tgt := 35) rfl rfl (fun _ => ?_) (fun c => absurd (c_gen (by omega)) c)
      iterate 2 refine gG.step rfl (fun _ => rfl) ?_
      refine mPut hM rfl (by decide) rfl rfl rfl (fun h hM => ?_)
      iterate 2 refine gG.step rfl (fun _ => rfl) ?_
      refine mPut hM rfl (by decide) rfl rfl rfl (fun h hM => ?_)
      refine gG.step rfl (fun _ => rfl) ?_
      exact gG.done rfl (fun _ => rfl) (k h hM)
  · rw [if_neg (show ¬ hi - 1 ≤ t 6 m from fun z => c (decide_eq_true z))] at k
    refine gG.step rfl (fun _ => rfl) ?_
    exact gG.done rfl (fun _ => rfl) (k h hM)
def mReadMap (s : Nat → Int32) (t : Nat → Nat → Int32) : Int32 × (Nat → Nat → Int32) :=
  if (1 ≤ t 9 0 ∧ t 9 0 ≤ 99) ∧ (1 ≤ t 9 1 ∧ t 9 1 ≤ 24) ∧ (1 ≤ t 9 2 ∧ t 9 2 ≤ 80) then (match mMapO t (nv (s 10)) (t 9 0) with
    | some _ => (4, t)
    | none => if t 3 (nv (s 10)) = 8 then (5, t) else
      let m := 8 * nv (s 10) + nv (t 3 (nv (s 10)))
      (0, va_up (va_up (va_up (va_up (va_up t 3 (upd (t 3) (nv (s 10)) (t 3 (nv (s 10)) + 1))) 4 (upd (t 4) m (t 9 0))) 5 (upd (t 5) m (t 9 1))) 6 (upd (t 6) m (t 9 2))) 7 (upd (t 7) m 0))) else (3, t)
theorem m_525 (d : Nat) {b : Nat} {h0 h : im_H} {s : Nat → Int32} {t : Nat → Nat → Int32} (hM : MM b h0 h s t) (hE : ps (s 10) 5) (hp : ps (t 3 (nv (s 10))) 8) (Q : Option Value → im_H → Prop) (k : ∀ h', MM b h0 h' s (mReadMap s t).2 → Q (some (.int (mReadMap s t).1)) h') : gC (gD (d + 2)) 525 [.ref b] h Q := by
  have hE5 := hE.2
  have hp8 := hp.2
  refine gC.of (q := me_525.2) rfl (Nat.le_of_ble_eq_true rfl) rfl ?_
  refine gG.step (cd := cd_525) rfl (fun _ => rfl) ?_
  refine mGet hM rfl rfl ?_
  refine gG.step rfl (fun _ => rfl) ?_
  refine mAld (j := 9) (n := 0) hM rfl (by decide) (by decide) rfl (show 0 < 6 by decide) ?_
  iterate 2 refine gG.step rfl (fun _ => rfl) ?_
  refine gG.inv rfl (fun _ => rfl) (Nat.le_of_ble_eq_true rfl) rfl rfl (Nat.le_of_ble_eq_true rfl) ?_
  refine m_514 d _ _ _ _ _ ?_
  show gG _ _ _ _ 12 _ [Value.int (bI (decide (1 ≤ t 9 0 ∧ t 9 0 ≤ 99)))] h Q
  unfold mReadMap at k
  have wrong : ¬ ((1 ≤ t 9 0 ∧ t 9 0 ≤ 99) ∧ (1 ≤ t 9 1 ∧ t 9 1 ≤ 24) ∧ (1 ≤ t 9 2 ∧ t 9 2 ≤ 80)) → gG tb_T (gD (d + 1)) (some .int) cd_525 45 [some (.ref b), none] [] h Q := by
    intro hz
    rw [if_neg hz] at k
    refine gG.step rfl (fun _ => rfl) ?_
    exact gG.done rfl (fun _ => rfl) (k h hM)
  by_cases h1 : 1 ≤ t 9 0 ∧ t 9 0 ≤ 99
  case neg =>
    rw [decide_eq_false h1]
    refine gG.ifc (tgt := 45) rfl rfl (fun _ => wrong (fun z => h1 z.1)) (fun c => absurd (by decide) c)
  case pos =>
  rw [decide_eq_true h1]
  refine gG.ifc (tgt := 45) rfl rfl (fun c => absurd c (by decide)) (fun _ => ?_)
  refine gG.step rfl (fun _ => rfl) ?_
  refine mGet hM rfl rfl ?_
  refine gG.step rfl (fun _ => rfl) ?_
  refine mAld (j := 9) (n := 1) hM rfl (by decide) (by decide) rfl (show 1 < 6 by decide) ?_
  iterate 2 refine gG.step rfl (fun _ => rfl) ?_
  refine gG.inv rfl (fun _ => rfl) (Nat.le_of_ble_eq_true rfl) rfl rfl (Nat.le_of_ble_eq_true rfl) ?_
  refine m_514 d _ _ _ _ _ ?_
  show gG _ _ _ _ 27 _ [Value.int (bI (decide (1 ≤ t 9 1 ∧ t 9 1 ≤ 24)))] h Q
  by_cases h2 : 1 ≤ t 9 1 ∧ t 9 1 ≤ 24
  case neg =>
    rw [decide_eq_false h2]
    refine gG.ifc (tgt := 45) rfl rfl (fun _ => wrong (fun z => h2 z.2.1)) (fun c => absurd (by decide) c)
  case pos =>
  rw [decide_eq_true h2]
  refine gG.ifc (tgt := 45) rfl rfl (fun c => absurd c (by decide)) (fun _ => ?_)
  refine gG.step rfl (fun _ => rfl) ?_
  refine mGet hM rfl rfl ?_
  refine gG.step rfl (fun _ => rfl) ?_
  refine mAld (j := 9) (n := 2) hM rfl (by decide) (by decide) rfl (show 2 < 6 by decide) ?_
  iterate 2 refine gG.step rfl (fun _ => rfl) ?_
  refine gG.inv rfl (fun _ => rfl) (Nat.le_of_ble_eq_true rfl) rfl rfl (Nat.le_of_ble_eq_true rfl) ?_
  refine m_514 d _ _ _ _ _ ?_
  show gG _ _ _ _ 42 _ [Value.int (bI (decide (1 ≤ t 9 2 ∧ t 9 2 ≤ 80)))] h Q
  by_cases h3 : 1 ≤ t 9 2 ∧ t 9 2 ≤ 80
  case neg =>
    rw [decide_eq_false h3]
    refine gG.ifc (tgt := 47) rfl rfl (fun c => absurd c (by decide)) (fun _ => wrong (fun z => h3 z.2.2))
  case pos =>
  rw [decide_eq_true h3]
  refine gG.ifc (tgt := 47) rfl rfl (fun _ => ?_) (fun c => absurd (by decide) c)
  rw [if_pos ⟨h1, h2, h3⟩] at k
  iterate 2 refine gG.step rfl (fun _ => rfl) ?_
  refine mGet hM rfl rfl ?_
  show gG _ _ _ _ 52 _ [Value.int (s 10), Value.ref b] h Q
  rw [hE.1]
  refine gG.step rfl (fun _ => rfl) ?_
  refine mGet hM rfl rfl ?_
  refine gG.step rfl (fun _ => rfl) ?_
  refine mAld (j := 9) (n := 0) hM rfl (by decide) (by decide) rfl (show 0 < 6 by decide) ?_
  refine mVir hM rfl rfl rfl (Nat.le_of_ble_eq_true rfl) rfl rfl (Nat.le_of_ble_eq_true rfl) ?_
  refine m_518' d hM (by omega) hp _ ?_
  show gG _ _ _ _ 61 _ [Value.int (oI (mMapO t (nv (s 10)) (t 9 0)))] h Q
  cases ho : mMapO t (nv (s 10)) (t 9 0) with
  | some q =>
    rw [ho] at k
    have hq48 : q < 48 := by
      unfold mMapO at ho
      cases hs : sr (mMapP t (nv (s 10)) (t 9 0)) (nv (t 3 (nv (s 10)))) 0 with
      | none => rw [hs] at ho; cases ho
      | some z =>
        rw [hs] at ho
        cases ho
        have := (sr_some hs).2.1
        show 8 * nv (s 10) + z < 48
        omega
    refine gG.ifc (tgt := 66) rfl rfl (fun c => absurd c (c_ltn (by omega))) (fun _ => ?_)
    refine gG.step rfl (fun _ => rfl) ?_
    exact gG.done rfl (fun _ => rfl) (k h hM)
  | none =>
    rw [ho] at k
    dsimp only at k
    refine gG.ifc (tgt := 66) rfl rfl (fun _ => ?_) (fun c => absurd (by decide) c)
    refine gG.step rfl (fun _ => rfl) ?_
    refine mGet hM rfl rfl ?_
    refine gG.step rfl (fun _ => rfl) ?_
    refine mGet hM rfl rfl ?_
    show gG _ _ _ _ 74 _ [Value.int (s 10), Value.ref (b + 3)] h Q
    refine mAld (j := 3) (n := nv (s 10)) hM rfl (by decide) (by decide) hE.1 (show _ < 7 by omega) ?_
    refine gG.step rfl (fun _ => rfl) ?_
    refine gG.icmp (tgt := 82) rfl rfl (fun c => ?_) (fun c => ?_)
    · have hn8 : ¬ t 3 (nv (s 10)) = 8 := c_ne.mp c
      rw [if_neg hn8] at k
      have hlt8 : nv (t 3 (nv (s 10))) < 8 := by
        rcases Nat.lt_or_ge (nv (t 3 (nv (s 10)))) 8 with z | z
        · exact z
        · exfalso
          apply hn8
          rw [hp.1, show nv (t 3 (nv (s 10))) = 8 by omega]
          rfl
      iterate 2 refine gG.step rfl (fun _ => rfl) ?_
      refine mGet hM rfl rfl ?_
      iterate 2 refine gG.step rfl (fun _ => rfl) ?_
      refine mGet hM rfl rfl ?_
      refine gG.step rfl (fun _ => rfl) ?_
      refine mGet hM rfl rfl ?_
      refine mAld (j := 3) (n := nv (s 10)) hM rfl (by decide) (by decide) hE.1 (show _ < 7 by omega) ?_
      refine gG.step rfl (fun _ => rfl) ?_
      have em : (8 : Int32) * s 10 + t 3 (nv (s 10)) = nI (8 * nv (s 10) + nv (t 3 (nv (s 10)))) := by
        rw [← nI_add, ← pk_mul, ← hp.1, ← hE.1]
        rfl
      show gG _ _ _ _ 99 _ [Value.int ((8 : Int32) * s 10 + t 3 (nv (s 10)))] h Q
      rw [em]
      obtain ⟨m, hmm⟩ : ∃ m, m = 8 * nv (s 10) + nv (t 3 (nv (s 10))) := ⟨_, rfl⟩
      rw [← hmm] at k ⊢
      have hm48 : m < 48 := by omega
      refine gG.step (L' := [some (.ref b), some (.int (nI m))]) rfl (fun _ => rfl) ?_
      refine gG.step rfl (fun _ => rfl) ?_
      refine mGet hM rfl rfl ?_
      refine gG.step rfl (fun _ => rfl) ?_
      refine mGet hM rfl rfl ?_
      refine gG.step rfl (fun _ => rfl) ?_
      refine mAld (j := 3) (n := nv (s 10)) hM rfl (by decide) (by decide) hE.1 (show _ < 7 by omega) ?_
      iterate 2 refine gG.step rfl (fun _ => rfl) ?_
      refine mAst (j := 3) (n := nv (s 10)) hM rfl (by decide) (by decide) hE.1 (show _ < 7 by omega) (fun h hM => ?_)
      refine gG.step rfl (fun _ => rfl) ?_
      refine mGet hM rfl rfl ?_
      iterate 2 refine gG.step rfl (fun _ => rfl) ?_
      refine mGet hM rfl rfl ?_
      refine gG.step rfl (fun _ => rfl) ?_
      refine mAld (j := 9) (n := 0) hM rfl (by decide) (by decide) rfl (show 0 < 6 by decide) ?_
      refine mAst (j := 4) (n := m) hM rfl (by decide) (by decide) rfl (show m < 48 from hm48) (fun h hM => ?_)
      refine gG.step rfl (fun _ => rfl) ?_
      refine mGet hM rfl rfl ?_
      iterate 2 refine gG.step rfl (fun _ => rfl) ?_
      refine mGet hM rfl rfl ?_
      refine gG.step rfl (fun _ => rfl) ?_
      refine mAld (j := 9) (n := 1) hM rfl (by decide) (by decide) rfl (show 1 < 6 by decide) ?_
      refine mAst (j := 5) (n := m) hM rfl (by decide) (by decide) rfl (show m < 48 from hm48) (fun h hM => ?_)
      refine gG.step rfl (fun _ => rfl) ?_
      refine mGet hM rfl rfl ?_
      iterate 2 refine gG.step rfl (fun _ => rfl) ?_
      refine mGet hM rfl rfl ?_
      refine gG.step rfl (fun _ => rfl) ?_
      refine mAld (j := 9) (n := 2) hM rfl (by decide) (by decide) rfl (show 2 < 6 by decide) ?_
      refine mAst (j := 6) (n := m) hM rfl (by decide) (by decide) rfl (show m < 48 from hm48) (fun h hM => ?_)
      refine gG.step rfl (fun _ => rfl) ?_
      refine mGet hM rfl rfl ?_
      iterate 2 refine gG.step rfl (fun _ => rfl) ?_
      refine mAst (j := 7) (n := m) hM rfl (by decide) (by decide) rfl (show m < 48 from hm48) (fun h hM => ?_)
      refine gG.step rfl (fun _ => rfl) ?_
      exact gG.done rfl (fun _ => rfl) (k h hM)
    · have h8 : t 3 (nv (s 10)) = 8 := Decidable.not_not.mp (fun z => c (c_ne.mpr z))
      rw [if_pos h8] at k
      refine gG.step rfl (fun _ => rfl) ?_
      exact gG.done rfl (fun _ => rfl) (k h hM)
/-- the 14 numbers of a new field -/
def mNew (g : Nat → Int32) (k : Nat) : Int32 := if k < 5 then g k else if k = 5 then 1 else 0
def mTell (t : Nat → Nat → Int32) (m f : Nat) : Nat → (Nat → Nat → Int32)
  | 0 => t
  | k + 1 => va_up (mTell t m f k) 8 (upd (mTell t m f k 8) (fI m f k) (mNew (t 9) k))
theorem mTell_ne {t : Nat → Nat → Int32} {m f : Nat} : ∀ (n : Nat) {j : Nat}, j ≠ 8 → mTell t m f n j = t j
  | 0, _, _ => rfl
  | n + 1, j, h => by rw [mTell, va_up_ne _ _ h, mTell_ne n h]
def mReadField (s : Nat → Int32) (t : Nat → Nat → Int32) (mo : Option Nat) : Int32 × (Nat → Int32) × (Nat → Nat → Int32) := match mo with
  | none => (2, s, t)
  | some m => if t 9 0 ≤ 99 ∧ (1 ≤ t 9 1 ∧ t 9 1 ≤ t 5 m) ∧ (1 ≤ t 9 2 ∧ t 9 2 ≤ t 6 m) ∧ ((if t 9 0 ≤ 0 then 0 else 1) ≤ t 9 3 ∧ t 9 3 ≤ 80) ∧ t 9 4 ≤ 15 then (match mFldO t m (t 9 0) with
    | some _ => (4, s, t)
    | none => if (mLies s t m (t 7 m) (t 9 1) (t 9 2) (t 9 2 + (t 9 3 + 1) * 1)).1 = true then (4, (mLies s t m (t 7 m) (t 9 1) (t 9 2) (t 9 2 + (t 9 3 + 1) * 1)).2, t) else
      if t 7 m = 30 then (5, s, t) else (0, upd s 19 0, mTell (va_up t 7 (upd (t 7) m (t 7 m + 1))) m (nv (t 7 m)) 14)) else (3, s, t)
theorem m_526 (d : Nat) {b : Nat} {h0 h : im_H} {s : Nat → Int32} {t : Nat → Nat → Int32} (hM : MM b h0 h s t) {mo : Option Nat} (hm : ∀ m, mo = some m → m < 48 ∧ ps (t 7 m) 30) (Q : Option Value → im_H → Prop) (k : ∀ h', MM b h0 h' (mReadField s t mo).2.1 (mReadField s t mo).2.2 → Q (some (.int (mReadField s t mo).1)) h') : gC (gD (d + 4)) 526 [.ref b, .int (oI mo)] h Q := by
  refine gC.of (q := me_526.2) rfl (Nat.le_of_ble_eq_true rfl) rfl ?_
  refine gG.step (cd := cd_526) rfl (fun _ => rfl) ?_
  unfold mReadField at k
  cases mo with
  | none =>
    refine gG.ifc (tgt := 6) rfl rfl (fun c => absurd c (by decide)) (fun _ => ?_)
    refine gG.step rfl (fun _ => rfl) ?_
    exact gG.done rfl (fun _ => rfl) (k h hM)
  | some m =>
    obtain ⟨hm48, hp⟩ := hm m rfl
    have hp30 := hp.2
    dsimp only at k
    refine gG.ifc (tgt := 6) rfl rfl (fun _ => ?_) (fun c => absurd (c_gen (by omega)) c)
    refine gG.step rfl (fun _ => rfl) ?_
    refine mGet hM rfl rfl ?_
    refine gG.step rfl (fun _ => rfl) ?_
    refine mAld (j := 9) (n := 0) hM rfl (by decide) (by decide) rfl (show 0 < 6 by decide) ?_
    obtain ⟨le, hle⟩ : ∃ le : Int32, le = if t 9 0 ≤ 0 then 0 else 1 := ⟨_, rfl⟩
    rw [← hle] at k
    have at20 : gG tb_T (gD (d + 3)) (some .int) cd_526 20 [some (.ref b), some (.int (nI m)), none, none, none] [.int le] h Q := by
      refine gG.step (L' := [some (.ref b), some (.int (nI m)), some (.int le), none, none]) rfl (fun _ => rfl) ?_
      have wrong : ¬ (t 9 0 ≤ 99 ∧ (1 ≤ t 9 1 ∧ t 9 1 ≤ t 5 m) ∧ (1 ≤ t 9 2 ∧ t 9 2 ≤ t 6 m) ∧ (le ≤ t 9 3 ∧ t 9 3 ≤ 80) ∧ t 9 4 ≤ 15) → gG tb_T (gD (d + 3)) (some .int) cd_526 96 [some (.ref b), some (.int (nI m)), some (.int le), none, none] [] h Q := by
        intro hz
        rw [if_neg hz] at k
        refine gG.step rfl (fun _ => rfl) ?_
        exact gG.done rfl (fun _ => rfl) (k h hM)
      refine gG.step rfl (fun _ => rfl) ?_
      refine mGet hM rfl rfl ?_
      refine gG.step rfl (fun _ => rfl) ?_
      refine mAld (j := 9) (n := 0) hM rfl (by decide) (by decide) rfl (show 0 < 6 by decide) ?_
      refine gG.step rfl (fun _ => rfl) ?_
      refine gG.icmp (tgt := 96) rfl rfl (fun c => wrong (fun z => absurd z.1 (Int32.not_le.mpr (of_decide_eq_true c)))) (fun c => ?_)
      have h0' : t 9 0 ≤ 99 := Int32.not_lt.mp (fun z => c (decide_eq_true z))
      refine gG.step rfl (fun _ => rfl) ?_
      refine mGet hM rfl rfl ?_
      refine gG.step rfl (fun _ => rfl) ?_
      refine mAld (j := 9) (n := 1) hM rfl (by decide) (by decide) rfl (show 1 < 6 by decide) ?_
      iterate 2 refine gG.step rfl (fun _ => rfl) ?_
      refine mGet hM rfl rfl ?_
      refine gG.step rfl (fun _ => rfl) ?_
      refine mAld (j := 5) (n := m) hM rfl (by decide) (by decide) rfl (show m < 48 from hm48) ?_
      refine gG.inv rfl (fun _ => rfl) (Nat.le_of_ble_eq_true rfl) rfl rfl (Nat.le_of_ble_eq_true rfl) ?_
      refine m_514 (d + 2) _ _ _ _ _ ?_
      show gG _ _ _ _ 48 _ [Value.int (bI (decide (1 ≤ t 9 1 ∧ t 9 1 ≤ t 5 m)))] h Q
      by_cases h1 : 1 ≤ t 9 1 ∧ t 9 1 ≤ t 5 m
      case neg =>
        rw [decide_eq_false h1]
        refine gG.ifc (tgt := 96) rfl rfl (fun _ => wrong (fun z => h1 z.2.1)) (fun c => absurd (by decide) c)
      case pos =>
      rw [decide_eq_true h1]
      refine gG.ifc (tgt := 96) rfl rfl (fun c => absurd c (by decide)) (fun _ => ?_)
      refine gG.step rfl (fun _ => rfl) ?_
      refine mGet hM rfl rfl ?_
      refine gG.step rfl (fun _ => rfl) ?_
      refine mAld (j := 9) (n := 2) hM rfl (by decide) (by decide) rfl (show 2 < 6 by decide) ?_
      iterate 2 refine gG.step rfl (fun _ => rfl) ?_
      refine mGet hM rfl rfl ?_
      refine gG.step rfl (fun _ => rfl) ?_
      refine mAld (j := 6) (n := m) hM rfl (by decide) (by decide) rfl (show m < 48 from hm48) ?_
      refine gG.inv rfl (fun _ => rfl) (Nat.le_of_ble_eq_true rfl) rfl rfl (Nat.le_of_ble_eq_true rfl) ?_
      refine m_514 (d + 2) _ _ _ _ _ ?_
      show gG _ _ _ _ 67 _ [Value.int (bI (decide (1 ≤ t 9 2 ∧ t 9 2 ≤ t 6 m)))] h Q
      by_cases h2 : 1 ≤ t 9 2 ∧ t 9 2 ≤ t 6 m
      case neg =>
        rw [decide_eq_false h2]
        refine gG.ifc (tgt := 96) rfl rfl (fun _ => wrong (fun z => h2 z.2.2.1)) (fun c => absurd (by decide) c)
      case pos =>
      rw [decide_eq_true h2]
      refine gG.ifc (tgt := 96) rfl rfl (fun c => absurd c (by decide)) (fun _ => ?_)
      refine gG.step rfl (fun _ => rfl) ?_
      refine mGet hM rfl rfl ?_
      refine gG.step rfl (fun _ => rfl) ?_
      refine mAld (j := 9) (n := 3) hM rfl (by decide) (by decide) rfl (show 3 < 6 by decide) ?_
      iterate 2 refine gG.step rfl (fun _ => rfl) ?_
      refine gG.inv rfl (fun _ => rfl) (Nat.le_of_ble_eq_true rfl) rfl rfl (Nat.le_of_ble_eq_true rfl) ?_
      refine m_514 (d + 2) _ _ _ _ _ ?_
      show gG _ _ _ _ 82 _ [Value.int (bI (decide (le ≤ t 9 3 ∧ t 9 3 ≤ 80)))] h Q
      by_cases h3 : le ≤ t 9 3 ∧ t 9 3 ≤ 80
      case neg =>
        rw [decide_eq_false h3]
        refine gG.ifc (tgt := 96) rfl rfl (fun _ => wrong (fun z => h3 z.2.2.2.1)) (fun c => absurd (by decide) c)
      case pos =>
      rw [decide_eq_true h3]
      refine gG.ifc (tgt := 96) rfl rfl (fun c => absurd c (by decide)) (fun _ => ?_)
      refine gG.step rfl (fun _ => rfl) ?_
      refine mGet hM rfl rfl ?_
      refine gG.step rfl (fun _ => rfl) ?_
      refine mAld (j := 9) (n := 4) hM rfl (by decide) (by decide) rfl (show 4 < 6 by decide) ?_
      refine gG.step rfl (fun _ => rfl) ?_
      refine gG.icmp (tgt := 98) rfl rfl (fun c4 => ?_) (fun c4 => wrong (fun z => c4 (decide_eq_true z.2.2.2.2)))
      have h4 : t 9 4 ≤ 15 := of_decide_eq_true c4
      rw [if_pos ⟨h0', h1, h2, h3, h4⟩] at k
      refine gG.step rfl (fun _ => rfl) ?_
      refine mGet hM rfl rfl ?_
      refine gG.step rfl (fun _ => rfl) ?_
      refine mAld (j := 7) (n := m) hM rfl (by decide) (by decide) rfl (show m < 48 from hm48) ?_
      refine gG.step (L' := [some (.ref b), some (.int (nI m)), some (.int le), some (.int (t 7 m)), none]) rfl (fun _ => rfl) ?_
      iterate 3 refine gG.step rfl (fun _ => rfl) ?_
      refine mGet hM rfl rfl ?_
      refine gG.step rfl (fun _ => rfl) ?_
      refine mAld (j := 9) (n := 0) hM rfl (by decide) (by decide) rfl (show 0 < 6 by decide) ?_
      refine mVir hM rfl rfl rfl (Nat.le_of_ble_eq_true rfl) rfl rfl (Nat.le_of_ble_eq_true rfl) ?_
      refine m_521' (d + 1) hM hm48 hp _ ?_
      show gG _ _ _ _ 116 _ [Value.int (oI (mFldO t m (t 9 0)))] h Q
      cases hf : mFldO t m (t 9 0) with
      | some q =>
        rw [hf] at k
        have hq30 : q < 30 := by have h1 := (mFldO_some hf).1; omega
        refine gG.ifc (tgt := 156) rfl rfl (fun _ => ?_) (fun c => absurd (c_gen (by omega)) c)
        refine gG.step rfl (fun _ => rfl) ?_
        exact gG.done rfl (fun _ => rfl) (k h hM)
      | none =>
        rw [hf] at k
        dsimp only at k
        refine gG.ifc (tgt := 156) rfl rfl (fun c => absurd c (by decide)) (fun _ => ?_)
        iterate 4 refine gG.step rfl (fun _ => rfl) ?_
        refine mGet hM rfl rfl ?_
        refine gG.step rfl (fun _ => rfl) ?_
        refine mAld (j := 9) (n := 1) hM rfl (by decide) (by decide) rfl (show 1 < 6 by decide) ?_
        refine gG.step rfl (fun _ => rfl) ?_
        refine mGet hM rfl rfl ?_
        refine gG.step rfl (fun _ => rfl) ?_
        refine mAld (j := 9) (n := 2) hM rfl (by decide) (by decide) rfl (show 2 < 6 by decide) ?_
        refine gG.step rfl (fun _ => rfl) ?_
        refine mGet hM rfl rfl ?_
        refine gG.step rfl (fun _ => rfl) ?_
        refine mAld (j := 9) (n := 2) hM rfl (by decide) (by decide) rfl (show 2 < 6 by decide) ?_
        refine gG.step rfl (fun _ => rfl) ?_
        refine mGet hM rfl rfl ?_
        refine gG.step rfl (fun _ => rfl) ?_
        refine mAld (j := 9) (n := 3) hM rfl (by decide) (by decide) rfl (show 3 < 6 by decide) ?_
        refine gG.step rfl (fun _ => rfl) ?_
        refine gG.inv rfl (fun _ => rfl) (Nat.le_of_ble_eq_true rfl) rfl rfl (Nat.le_of_ble_eq_true rfl) ?_
        refine m_522 (d + 2) _ _ _ _ _ ?_
        show gG _ _ _ _ 150 _ [Value.int (t 9 2 + (t 9 3 + 1) * 1), Value.int (t 9 2), Value.int (t 9 1), Value.int (t 7 m), Value.int (nI m), Value.ref b] h Q
        refine mVir hM rfl rfl rfl (Nat.le_of_ble_eq_true rfl) rfl rfl (Nat.le_of_ble_eq_true rfl) ?_
        refine m_524 d hM hm48 hp _ (fun h hM => ?_)
        show gG _ _ _ _ 153 _ [Value.int (bI (mLies s t m (t 7 m) (t 9 1) (t 9 2) (t 9 2 + (t 9 3 + 1) * 1)).1)] h Q
        cases hb : (mLies s t m (t 7 m) (t 9 1) (t 9 2) (t 9 2 + (t 9 3 + 1) * 1)).1 with
        | true =>
          rw [if_pos hb] at k
          refine gG.ifc (tgt := 158) rfl rfl (fun c => absurd c (by decide)) (fun _ => ?_)
          refine gG.step rfl (fun _ => rfl) ?_
          exact gG.done rfl (fun _ => rfl) (k h hM)
        | false =>
          rw [if_neg (by rw [hb]; decide)] at k
          have es : (mLies s t m (t 7 m) (t 9 1) (t 9 2) (t 9 2 + (t 9 3 + 1) * 1)).2 = s := by
            unfold mLies at hb ⊢
            split at hb
            · rename_i hc
              rw [if_pos hc]
              cases ho : mOvrO t m (t 7 m) (t 9 1) (t 9 2) (t 9 2 + (t 9 3 + 1) * 1) with
              | none => rfl
              | some o => rw [ho] at hb; cases hb
            · cases hb
          rw [es] at hM
          refine gG.ifc (tgt := 158) rfl rfl (fun _ => ?_) (fun c => absurd (by decide) c)
          iterate 2 refine gG.step rfl (fun _ => rfl) ?_
          refine gG.icmp (tgt := 166) rfl rfl (fun c => ?_) (fun c => ?_)
          · have hn30 : ¬ t 7 m = 30 := c_ne.mp c
            rw [if_neg hn30] at k
            have hlt30 : nv (t 7 m) < 30 := by
              rcases Nat.lt_or_ge (nv (t 7 m)) 30 with z | z
              · exact z
              · exfalso
                apply hn30
                rw [hp.1, show nv (t 7 m) = 30 by omega]
                rfl
            refine gG.step rfl (fun _ => rfl) ?_
            refine mGet hM rfl rfl ?_
            iterate 2 refine gG.step rfl (fun _ => rfl) ?_
            refine mAld (j := 7) (n := m) hM rfl (by decide) (by decide) rfl (show m < 48 from hm48) ?_
            iterate 2 refine gG.step rfl (fun _ => rfl) ?_
            refine mAst (j := 7) (n := m) hM rfl (by decide) (by decide) rfl (show m < 48 from hm48) (fun h hM => ?_)
            obtain ⟨f, hff⟩ : ∃ f, f = nv (t 7 m) := ⟨_, rfl⟩
            have e7 : t 7 m = nI f := by rw [hff]; exact hp.1
            rw [← hff] at k hlt30
            obtain ⟨t0, ht0⟩ : ∃ t0, t0 = va_up t 7 (upd (t 7) m (t 7 m + 1)) := ⟨_, rfl⟩
            have hM : MM b h0 h s t0 := by rw [ht0]; exact hM
            rw [← ht0] at k
            rw [e7]
            have e9 : t0 9 = t 9 := by rw [ht0]; exact va_up_ne _ _ (by decide)
            refine gG.step rfl (fun _ => rfl) ?_
            refine gG.step (L' := [some (.ref b), some (.int (nI m)), some (.int le), some (.int (nI f)), some (.int (nI 0))]) rfl (fun _ => rfl) ?_
            have key : ∀ (r i : Nat) (h : im_H), i + r = 14 → MM b h0 h s (mTell t0 m f i) → gG tb_T (gD (d + 3)) (some .int) cd_526 179 [some (.ref b), some (.int (nI m)), some (.int le), some (.int (nI f)), some (.int (nI i))] [] h Q := by
              intro r
              induction r with
              | zero =>
                intro i h hi hM
                have hi : i = 14 := by omega
                subst hi
                iterate 2 refine gG.step rfl (fun _ => rfl) ?_
                refine gG.icmp (tgt := 227) rfl rfl (fun _ => ?_) (fun c => absurd (by decide) c)
                iterate 2 refine gG.step rfl (fun _ => rfl) ?_
                refine mPut hM rfl (by decide) rfl rfl rfl (fun h hM => ?_)
                refine gG.step rfl (fun _ => rfl) ?_
                exact gG.done rfl (fun _ => rfl) (k h hM)
              | succ r ih =>
                intro i h hi hM
                iterate 2 refine gG.step rfl (fun _ => rfl) ?_
                refine gG.icmp (tgt := 227) rfl rfl (fun c => absurd ((c_ge (b := 14) (by omega) (by decide)).mp c) (by omega)) (fun _ => ?_)
                iterate 6 refine gG.step rfl (fun _ => rfl) ?_
                have at218 : gG tb_T (gD (d + 3)) (some .int) cd_526 218 [some (.ref b), some (.int (nI m)), some (.int le), some (.int (nI f)), some (.int (nI i))] [.int (mNew (t 9) i), .int (nI i), .int (nI f), .int (nI m), .ref b] h Q := by
                  refine mVir hM rfl rfl rfl (Nat.le_of_ble_eq_true rfl) rfl rfl (Nat.le_of_ble_eq_true rfl) ?_
                  refine m_520 (d + 2) hM hm48 hlt30 (by omega) _ (fun h hM => ?_)
                  refine gG.step rfl (fun _ => rfl) ?_
                  refine gG.goto (tgt := 179) rfl rfl ?_
                  have hM : MM b h0 h s (mTell t0 m f (i + 1)) := by
                    rw [mTell, e9]
                    exact hM
                  have ih1 := ih (i + 1) h (by omega) hM
                  rw [← nI_1 i] at ih1
                  exact ih1
                refine gG.icmp (tgt := 207) rfl rfl (fun c => ?_) (fun c => ?_)
                · have h5 : ¬ i < 5 := fun z => absurd ((c_ge (b := 5) (by omega) (by decide)).mp c) (by omega)
                  iterate 2 refine gG.step rfl (fun _ => rfl) ?_
                  refine gG.icmp (tgt := 217) rfl rfl (fun c => ?_) (fun c => ?_)
                  · have h6 : ¬ i = 5 := fun z => c_ne.mp c (by rw [z]; rfl)
                    have e : mNew (t 9) i = 0 := by unfold mNew; rw [if_neg h5, if_neg h6]
                    rw [e] at at218
                    refine gG.step rfl (fun _ => rfl) ?_
                    exact at218
                  · have h6 : i = 5 := (nI_eq (a := i) (b := 5) (by omega) (by decide)).mp (Decidable.not_not.mp (fun z => c (c_ne.mpr z)))
                    have e : mNew (t 9) i = 1 := by unfold mNew; rw [if_neg h5, if_pos h6]
                    rw [e] at at218
                    refine gG.step rfl (fun _ => rfl) ?_
                    refine gG.goto (tgt := 218) rfl rfl ?_
                    exact at218
                · have h5 : i < 5 := Nat.lt_of_not_le (fun z => c ((c_ge (b := 5) (by omega) (by decide)).mpr z))
                  have e : mNew (t 9) i = t 9 i := by unfold mNew; rw [if_pos h5]
                  rw [e] at at218
                  refine gG.step rfl (fun _ => rfl) ?_
                  refine mGet hM rfl rfl ?_
                  refine gG.step rfl (fun _ => rfl) ?_
                  refine mAld (j := 9) (n := i) hM rfl (by decide) (by decide) rfl (show i < 6 by omega) ?_
                  rw [mTell_ne i (by decide), e9]
                  refine gG.goto (tgt := 218) rfl rfl ?_
                  exact at218
            exact key 14 0 h (by omega) hM
          · have h30 : t 7 m = 30 := Decidable.not_not.mp (fun z => c (c_ne.mpr z))
            rw [if_pos h30] at k
            refine gG.step rfl (fun _ => rfl) ?_
            exact gG.done rfl (fun _ => rfl) (k h hM)
    refine gG.ifc (tgt := 19) rfl rfl (fun c => ?_) (fun c => ?_)
    · rw [if_pos (of_decide_eq_true c)] at hle
      rw [hle] at at20
      refine gG.step rfl (fun _ => rfl) ?_
      exact at20
    · rw [if_neg (fun z => c (decide_eq_true z))] at hle
      rw [hle] at at20
      refine gG.step rfl (fun _ => rfl) ?_
      refine gG.goto (tgt := 20) rfl rfl ?_
      exact at20
