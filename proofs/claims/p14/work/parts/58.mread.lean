def mPrgP (t : Nat → Nat → Int32) (o m : Nat) (f : Nat) : Bool := decide (0 < t 8 (fI o f 0)) && !mLike t o f (some m)
def mPrgO (s : Nat → Int32) (t : Nat → Nat → Int32) (map edition : Int32) : Option Nat := if 1 ≤ edition ∧ edition ≤ s 10 then mMapO t (nv edition - 1) map else none
def mProgram (s : Nat → Int32) (t : Nat → Nat → Int32) (map edition : Int32) : Int32 := match mHandO s t map, mPrgO s t map edition with
  | some m, some o => (match sr (mPrgP t o m) (nv (t 7 o)) 0 with
    | some _ => 0
    | none => 1)
  | _, _ => -2
theorem m_549 (d : Nat) {b : Nat} {h0 h : im_H} {s : Nat → Int32} {t : Nat → Nat → Int32} (hM : MM b h0 h s t) (hI : MI s t) {map edition : Int32} (Q : Option Value → im_H → Prop) (k : ∀ h', MM b h0 h' (upd s 0 0) t → Q (some (.int (mProgram s t map edition))) h') : gC (gD (d + 5)) 549 [.ref b, .int map, .int edition] h Q := by
  refine gC.of (q := me_549.2) rfl (Nat.le_of_ble_eq_true rfl) rfl ?_
  iterate 2 refine gG.step (cd := cd_549) rfl (fun _ => rfl) ?_
  refine mPut hM rfl (by decide) rfl rfl rfl (fun h hM => ?_)
  have k := k h hM
  have hI : MI (upd s 0 0) t := hI
  iterate 2 refine gG.step rfl (fun _ => rfl) ?_
  refine mVir hM rfl rfl rfl (Nat.le_of_ble_eq_true rfl) rfl rfl (Nat.le_of_ble_eq_true rfl) ?_
  refine m_535' (d + 2) hM hI _ ?_
  show gG _ _ _ _ 10 _ [Value.int (oI (mHandO s t map))] h Q
  unfold mProgram at k
  have hmO : ∀ m, mHandO s t map = some m → m < 48 ∧ ps (t 7 m) 30 := fun m hm => by
    obtain ⟨g1, g2, -⟩ := mHandO_some (s := upd s 0 0) hI hm
    exact ⟨g1, g2.2.2.2.1⟩
  generalize mHandO s t map = om at k hmO ⊢
  refine gG.step (L' := [some (.ref b), some (.int map), some (.int edition), some (.int (oI om)), none, none]) rfl (fun _ => rfl) ?_
  iterate 3 refine gG.step rfl (fun _ => rfl) ?_
  refine mGet hM rfl rfl ?_
  show gG _ _ _ _ 17 _ [Value.int (s 10), Value.int 1, Value.int edition] h Q
  refine gG.inv rfl (fun _ => rfl) (Nat.le_of_ble_eq_true rfl) rfl rfl (Nat.le_of_ble_eq_true rfl) ?_
  refine m_514 (d + 3) _ _ _ _ _ ?_
  show gG _ _ _ _ 20 _ [Value.int (bI (decide (1 ≤ edition ∧ edition ≤ s 10)))] h Q
  have hoO : ∀ o, mPrgO s t map edition = some o → o < 48 ∧ ps (t 7 o) 30 := by
    intro o ho
    unfold mPrgO at ho
    split at ho
    · rename_i he
      have hE : ps (s 10) 6 := hI.1
      have hE6 := hE.2
      rw [hE.1] at he
      obtain ⟨x, hx1, hx2, rfl⟩ := w1_of (by omega) he
      rw [nv_nI (n := x) (by omega)] at ho
      obtain ⟨g1, g2, -⟩ := mMapO_some hI (show x - 1 < nv (s 10) by omega) ho
      exact ⟨g1, g2.2.2.2.1⟩
    · cases ho
  have fin : gG tb_T (gD (d + 4)) (some .int) cd_549 35 [some (.ref b), some (.int map), some (.int edition), some (.int (oI om)), none, none] [.int (oI (mPrgO s t map edition))] h Q := by
    generalize mPrgO s t map edition = oo at k hoO ⊢
    refine gG.step (L' := [some (.ref b), some (.int map), some (.int edition), some (.int (oI om)), some (.int (oI oo)), none]) rfl (fun _ => rfl) ?_
    refine gG.step rfl (fun _ => rfl) ?_
    cases om with
    | none =>
      refine gG.ifc (tgt := 46) rfl rfl (fun _ => ?_) (fun c => absurd (by decide) c)
      refine gG.step rfl (fun _ => rfl) ?_
      exact gG.done rfl (fun _ => rfl) (k)
    | some m =>
      obtain ⟨hm, hm7⟩ := hmO m rfl
      refine gG.ifc (tgt := 46) rfl rfl (fun c => absurd c (c_ltn (by omega))) (fun _ => ?_)
      refine gG.step rfl (fun _ => rfl) ?_
      cases oo with
      | none =>
        refine gG.ifc (tgt := 49) rfl rfl (fun c => absurd c (by decide)) (fun _ => ?_)
        refine gG.step rfl (fun _ => rfl) ?_
        exact gG.done rfl (fun _ => rfl) (k)
      | some o =>
        obtain ⟨ho, ho7⟩ := hoO o rfl
        have ho30 := ho7.2
        refine gG.ifc (tgt := 49) rfl rfl (fun _ => ?_) (fun c => absurd (c_gen (by omega)) c)
        iterate 2 refine gG.step rfl (fun _ => rfl) ?_
        dsimp only at k
        have key : ∀ r i : Nat, i + r = nv (t 7 o) → Q (some (.int (match sr (mPrgP t o m) r i with | some _ => 0 | none => 1))) h → gG tb_T (gD (d + 4)) (some .int) cd_549 52 [some (.ref b), some (.int map), some (.int edition), some (.int (nI m)), some (.int (nI o)), some (.int (nI i))] [] h Q := by
          intro r
          induction r with
          | zero =>
            intro i hi hq
            have hi : i = nv (t 7 o) := by omega
            subst hi
            iterate 2 refine gG.step rfl (fun _ => rfl) ?_
            refine mGet hM rfl rfl ?_
            refine gG.step rfl (fun _ => rfl) ?_
            refine mAld (j := 7) (n := o) hM rfl (by decide) (by decide) rfl (show o < 48 from ho) ?_
            show gG _ _ _ _ 61 _ [Value.int (t 7 o), Value.int (nI (nv (t 7 o)))] h Q
            rw [← ho7.1]
            refine gG.icmp (tgt := 96) rfl rfl (fun _ => ?_) (fun c => absurd (decide_eq_true (Int32.le_refl _)) c)
            refine gG.step rfl (fun _ => rfl) ?_
            exact gG.done rfl (fun _ => rfl) (hq)
          | succ r ih =>
            intro i hi hq
            iterate 2 refine gG.step rfl (fun _ => rfl) ?_
            refine mGet hM rfl rfl ?_
            refine gG.step rfl (fun _ => rfl) ?_
            refine mAld (j := 7) (n := o) hM rfl (by decide) (by decide) rfl (show o < 48 from ho) ?_
            show gG _ _ _ _ 61 _ [Value.int (t 7 o), Value.int (nI i)] h Q
            rw [ho7.1]
            refine gG.icmp (tgt := 96) rfl rfl (fun z => absurd ((c_ge (by omega) (by omega)).mp z) (by omega)) (fun _ => ?_)
            rw [sr] at hq
            have next : mPrgP t o m i = false → gG tb_T (gD (d + 4)) (some .int) cd_549 90 [some (.ref b), some (.int map), some (.int edition), some (.int (nI m)), some (.int (nI o)), some (.int (nI i))] [] h Q := by
              intro hp
              rw [if_neg (by rw [hp]; decide)] at hq
              refine gG.step rfl (fun _ => rfl) ?_
              refine gG.goto (tgt := 52) rfl rfl ?_
              have := ih (i + 1) (by omega) hq
              rw [← nI_1 i] at this
              exact this
            iterate 4 refine gG.step rfl (fun _ => rfl) ?_
            refine mVir hM rfl rfl rfl (Nat.le_of_ble_eq_true rfl) rfl rfl (Nat.le_of_ble_eq_true rfl) ?_
            refine m_519 (d + 3) hM ho (by omega) (show 0 < 14 by decide) _ ?_
            show gG _ _ _ _ 73 _ [Value.int (t 8 (fI o i 0))] h Q
            refine gG.ifc (tgt := 90) rfl rfl (fun c => ?_) (fun c => ?_)
            · refine next ?_
              unfold mPrgP
              rw [decide_eq_false (Int32.not_lt.mpr (of_decide_eq_true c))]
              rfl
            · have hc : 0 < t 8 (fI o i 0) := Int32.not_le.mp (fun z => c (decide_eq_true z))
              iterate 4 refine gG.step rfl (fun _ => rfl) ?_
              show gG _ _ _ _ 82 _ [Value.int (oI (some m)), Value.int (nI i), Value.int (nI o), Value.ref b] h Q
              refine mVir hM rfl rfl rfl (Nat.le_of_ble_eq_true rfl) rfl rfl (Nat.le_of_ble_eq_true rfl) ?_
              refine m_547 d hM ho (by omega) (fun q hq => by cases hq; exact ⟨hm, hm7⟩) _ ?_
              show gG _ _ _ _ 85 _ [Value.int (bI (mLike t o i (some m)))] h Q
              cases hl : mLike t o i (some m) with
              | true =>
                refine gG.ifc (tgt := 90) rfl rfl (fun _ => ?_) (fun c => absurd (by decide) c)
                refine next ?_
                unfold mPrgP
                rw [hl]
                simp
              | false =>
                refine gG.ifc (tgt := 90) rfl rfl (fun c => absurd c (by decide)) (fun _ => ?_)
                rw [if_pos (by unfold mPrgP; rw [hl, decide_eq_true hc]; rfl)] at hq
                refine gG.step rfl (fun _ => rfl) ?_
                exact gG.done rfl (fun _ => rfl) (hq)
        exact key (nv (t 7 o)) 0 (by omega) k
  by_cases he : 1 ≤ edition ∧ edition ≤ s 10
  · rw [decide_eq_true he]
    have hE : ps (s 10) 6 := hI.1
    have hE6 := hE.2
    have he' := he
    rw [hE.1] at he'
    obtain ⟨x, hx1, hx2, rfl⟩ := w1_of (by omega) he'
    refine gG.ifc (tgt := 34) rfl rfl (fun c => absurd c (by decide)) (fun _ => ?_)
    iterate 4 refine gG.step rfl (fun _ => rfl) ?_
    have e3 : nI x - 1 = nI (x - 1) := by rw [show (1 : Int32) = nI 1 from rfl, pk_sub hx1]
    show gG _ _ _ _ 27 _ [Value.int (nI x - 1), Value.ref b] h Q
    rw [e3]
    refine gG.step rfl (fun _ => rfl) ?_
    refine mVir hM rfl rfl rfl (Nat.le_of_ble_eq_true rfl) rfl rfl (Nat.le_of_ble_eq_true rfl) ?_
    refine m_518' (d + 3) hM (by omega) (hI.2 (x - 1) (show x - 1 < nv (s 10) by omega)).1 _ ?_
    refine gG.goto (tgt := 35) rfl rfl ?_
    unfold mPrgO at fin
    rw [if_pos he, nv_nI (n := x) (by omega)] at fin
    exact fin
  · rw [decide_eq_false he]
    refine gG.ifc (tgt := 34) rfl rfl (fun _ => ?_) (fun c => absurd (by decide) c)
    refine gG.step rfl (fun _ => rfl) ?_
    unfold mPrgO at fin
    rw [if_neg he] at fin
    exact fin
def mOctet (s : Nat → Int32) (t : Nat → Nat → Int32) (i : Int32) : Int32 := if 0 ≤ i ∧ i ≤ s 21 - 1 then (t 10 (nv i)).toInt8.toInt32 else 0
def mThrow (s : Nat → Int32) (i : Int32) : Int32 := if 0 ≤ i ∧ i ≤ s 21 - 1 then 0 else 1
theorem m_544 (d : Nat) {b : Nat} {h0 h : im_H} {s : Nat → Int32} {t : Nat → Nat → Int32} (hM : MM b h0 h s t) (h21 : ps (s 21) 80) {i : Int32} (Q : Option Value → im_H → Prop) (k : ∀ h', MM b h0 h' (upd s 0 (mThrow s i)) t → Q (some (.int (mOctet s t i))) h') : gC (gD (d + 2)) 544 [.ref b, .int i] h Q := by
  refine gC.of (q := me_544.2) rfl (Nat.le_of_ble_eq_true rfl) rfl ?_
  iterate 4 refine gG.step (cd := cd_544) rfl (fun _ => rfl) ?_
  refine mGet hM rfl rfl ?_
  iterate 2 refine gG.step rfl (fun _ => rfl) ?_
  show gG _ _ _ _ 9 _ [Value.int (s 21 - 1), Value.int 0, Value.int i, Value.ref b] h Q
  refine gG.inv rfl (fun _ => rfl) (Nat.le_of_ble_eq_true rfl) rfl rfl (Nat.le_of_ble_eq_true rfl) ?_
  refine m_514 d _ _ _ _ _ ?_
  show gG _ _ _ _ 12 _ [Value.int (bI (decide (0 ≤ i ∧ i ≤ s 21 - 1))), Value.ref b] h Q
  unfold mThrow mOctet at k
  by_cases hc : 0 ≤ i ∧ i ≤ s 21 - 1
  · rw [if_pos hc, if_pos hc] at k
    rw [decide_eq_true hc]
    have h80 := h21.2
    rw [h21.1] at hc
    obtain ⟨j, hj, rfl⟩ := wn_of (by omega) hc
    rw [nv_nI (n := j) (by omega)] at k
    refine gG.ifc (tgt := 19) rfl rfl (fun c => absurd c (by decide)) (fun _ => ?_)
    refine gG.step rfl (fun _ => rfl) ?_
    refine gG.goto (tgt := 20) rfl rfl ?_
    refine mPut hM rfl (by decide) rfl rfl rfl (fun h hM => ?_)
    have k := k h hM
    refine gG.step rfl (fun _ => rfl) ?_
    refine mGet hM rfl rfl ?_
    refine gG.ifc (tgt := 34) rfl rfl (fun _ => ?_) (fun c => absurd (c_ee.mpr (show upd s 0 (Int32.ofInt 0) 0 = 0 from rfl)) c)
    refine gG.step rfl (fun _ => rfl) ?_
    refine mGet hM rfl rfl ?_
    refine gG.step rfl (fun _ => rfl) ?_
    refine mAld (j := 10) (n := j) hM rfl (by decide) (by decide) rfl (show j < 80 by omega) ?_
    refine gG.step rfl (fun _ => rfl) ?_
    refine gG.done rfl (fun _ => ?_) k
    show im_ret (some .byte) [Value.int (t 10 j).toInt8.toInt32] h = _
    unfold im_ret
    dsimp only
    rw [if_pos]
    · show ((t 10 j).toInt8.toInt32.toInt8.toInt32 == (t 10 j).toInt8.toInt32) = true
      simp
  · rw [if_neg hc, if_neg hc] at k
    rw [decide_eq_false hc]
    refine gG.ifc (tgt := 19) rfl rfl (fun _ => ?_) (fun c => absurd (by decide) c)
    refine gG.step rfl (fun _ => rfl) ?_
    refine mPut hM rfl (by decide) rfl rfl rfl (fun h hM => ?_)
    have k := k h hM
    refine gG.step rfl (fun _ => rfl) ?_
    refine mGet hM rfl rfl ?_
    refine gG.ifc (tgt := 34) rfl rfl (fun c => absurd (c_ee.mp c) (show ¬ upd s 0 (Int32.ofInt 1) 0 = 0 from (by decide : ¬ (1 : Int32) = 0))) (fun _ => ?_)
    refine gG.step rfl (fun _ => rfl) ?_
    refine gG.goto (tgt := 41) rfl rfl ?_
    exact gG.done rfl (fun _ => rfl) (k)
