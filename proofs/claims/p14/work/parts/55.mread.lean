section GO3
variable {T : im_T} {call : Nat → im_F} {ret : Option FieldType} {cd : List (Nat × im_X)} {pc : Nat} {L : im_L} {st : List Value} {h : im_H} {Q : Option Value → im_H → Prop}
theorem gG.tswOut {dflt lo hi : Int} {offs : Array Int} {a : Int32} {a1 a2 tgt : Nat} (hf : im_f cd pc = some (.tableswitch dflt lo hi offs, a1, a2)) (hr : a.toInt < lo ∨ hi < a.toInt) (ht : (pc : Int) + dflt = (tgt : Int)) (k : gG T call ret cd tgt L st h Q) : gG T call ret cd pc L (.int a :: st) h Q := by
  refine gG.step hf (fun n => ?_) k
  show (im_tsw dflt lo hi offs a).bind (fun off => im_jmp pc off L st h) = _
  unfold im_tsw
  rw [if_pos hr]
  show im_jmp pc dflt L st h = _
  unfold im_jmp
  rw [ht, if_pos (Int.natCast_nonneg tgt), Int.toNat_natCast]
  rfl
theorem gG.tswIn {dflt lo hi off : Int} {offs : Array Int} {a : Int32} {a1 a2 tgt : Nat} (hf : im_f cd pc = some (.tableswitch dflt lo hi offs, a1, a2)) (h1 : ¬ a.toInt < lo) (h2 : ¬ hi < a.toInt) (ho : offs[(a.toInt - lo).toNat]? = some off) (ht : (pc : Int) + off = (tgt : Int)) (k : gG T call ret cd tgt L st h Q) : gG T call ret cd pc L (.int a :: st) h Q := by
  refine gG.step hf (fun n => ?_) k
  show (im_tsw dflt lo hi offs a).bind (fun off => im_jmp pc off L st h) = _
  unfold im_tsw
  rw [if_neg (fun z => z.elim h1 h2), ho]
  show im_jmp pc off L st h = _
  unfold im_jmp
  rw [ht, if_pos (Int.natCast_nonneg tgt), Int.toNat_natCast]
  rfl
end GO3
def mTold (s : Nat → Int32) (t : Nat → Nat → Int32) (what : Int32) : Int32 := if what = 0 then s 11 else if what = 1 then s 12 else if what = 2 then s 10 else if what = 3 then (if s 10 = 0 then 0 else t 3 (nv (s 10) - 1)) else if what = 4 then s 2 else if what = 5 then s 23 else -1
theorem m_551 (d : Nat) {b : Nat} {h0 h : im_H} {s : Nat → Int32} {t : Nat → Nat → Int32} (hM : MM b h0 h s t) (hI : MI s t) {what : Int32} (Q : Option Value → im_H → Prop) (k : ∀ h', MM b h0 h' (upd s 0 0) t → Q (some (.int (mTold s t what))) h') : gC (gD (d + 1)) 551 [.ref b, .int what] h Q := by
  refine gC.of (q := me_551.2) rfl (Nat.le_of_ble_eq_true rfl) rfl ?_
  iterate 2 refine gG.step (cd := cd_551) rfl (fun _ => rfl) ?_
  refine mPut hM rfl (by decide) rfl rfl rfl (fun h hM => ?_)
  have k := k h hM
  refine gG.step rfl (fun _ => rfl) ?_
  unfold mTold at k
  by_cases w0 : what = 0
  · subst w0
    rw [if_pos rfl] at k
    refine gG.tswIn (tgt := 44) rfl (by decide) (by decide) rfl rfl ?_
    refine gG.step rfl (fun _ => rfl) ?_
    refine mGet hM rfl rfl ?_
    exact gG.done rfl (fun _ => rfl) (k)
  rw [if_neg w0] at k
  by_cases w1 : what = 1
  · subst w1
    rw [if_pos rfl] at k
    refine gG.tswIn (tgt := 49) rfl (by decide) (by decide) rfl rfl ?_
    refine gG.step rfl (fun _ => rfl) ?_
    refine mGet hM rfl rfl ?_
    exact gG.done rfl (fun _ => rfl) (k)
  rw [if_neg w1] at k
  by_cases w2 : what = 2
  · subst w2
    rw [if_pos rfl] at k
    refine gG.tswIn (tgt := 54) rfl (by decide) (by decide) rfl rfl ?_
    refine gG.step rfl (fun _ => rfl) ?_
    refine mGet hM rfl rfl ?_
    exact gG.done rfl (fun _ => rfl) (k)
  rw [if_neg w2] at k
  by_cases w3 : what = 3
  · subst w3
    rw [if_pos rfl] at k
    refine gG.tswIn (tgt := 59) rfl (by decide) (by decide) rfl rfl ?_
    refine gG.step rfl (fun _ => rfl) ?_
    refine mGet hM rfl rfl ?_
    show gG _ _ _ _ 63 _ [Value.int (s 10)] _ _
    refine gG.ifc (tgt := 70) rfl rfl (fun c => ?_) (fun c => ?_)
    · have h0 : ¬ s 10 = 0 := c_ne.mp c
      rw [if_neg h0] at k
      have hE0 := nv_pos hI.1 h0
      refine gG.step rfl (fun _ => rfl) ?_
      refine mGet hM rfl rfl ?_
      refine gG.step rfl (fun _ => rfl) ?_
      refine mGet hM rfl rfl ?_
      iterate 2 refine gG.step rfl (fun _ => rfl) ?_
      have e1 : s 10 - 1 = nI (nv (s 10) - 1) := by
        rw [hI.1.1, nv_nI (by have := hI.1.2; omega), show (1 : Int32) = nI 1 from rfl, pk_sub hE0]
      refine mAld (j := 3) (n := nv (s 10) - 1) hM rfl (by decide) (by decide) e1 (show nv (s 10) - 1 < 7 by have := hI.1.2; omega) ?_
      exact gG.done rfl (fun _ => rfl) (k)
    · have h0 : s 10 = 0 := Decidable.not_not.mp (fun z => c (c_ne.mpr z))
      rw [if_pos h0] at k
      refine gG.step rfl (fun _ => rfl) ?_
      refine gG.goto (tgt := 81) rfl rfl ?_
      exact gG.done rfl (fun _ => rfl) (k)
  rw [if_neg w3] at k
  by_cases w4 : what = 4
  · subst w4
    rw [if_pos rfl] at k
    refine gG.tswIn (tgt := 82) rfl (by decide) (by decide) rfl rfl ?_
    refine gG.step rfl (fun _ => rfl) ?_
    refine mGet hM rfl rfl ?_
    exact gG.done rfl (fun _ => rfl) (k)
  rw [if_neg w4] at k
  by_cases w5 : what = 5
  · subst w5
    rw [if_pos rfl] at k
    refine gG.tswIn (tgt := 87) rfl (by decide) (by decide) rfl rfl ?_
    refine gG.step rfl (fun _ => rfl) ?_
    refine mGet hM rfl rfl ?_
    exact gG.done rfl (fun _ => rfl) (k)
  rw [if_neg w5] at k
  refine gG.tswOut (tgt := 92) rfl ?_ rfl ?_
  · rcases pk_ix what (n := 6) (by decide) with h1 | h1 | ⟨j, hj, hw⟩
    · left
      rw [Int32.lt_iff_toInt_lt] at h1
      exact h1
    · right
      rw [Int32.le_iff_toInt_le, nI_toInt (by decide)] at h1
      omega
    · exfalso
      rcases (show j = 0 ∨ j = 1 ∨ j = 2 ∨ j = 3 ∨ j = 4 ∨ j = 5 by omega) with rfl | rfl | rfl | rfl | rfl | rfl
      · exact w0 hw
      · exact w1 hw
      · exact w2 hw
      · exact w3 hw
      · exact w4 hw
      · exact w5 hw
  · refine gG.step rfl (fun _ => rfl) ?_
    exact gG.done rfl (fun _ => rfl) (k)
def mOverlap (s : Nat → Int32) (i side : Int32) : Int32 := if ¬ i = 0 then -1 else if 0 ≤ side ∧ side ≤ 1 then (if side = 0 then s 13 else s 14) else -1
theorem m_537 (d : Nat) {b : Nat} {h0 h : im_H} {s : Nat → Int32} {t : Nat → Nat → Int32} (hM : MM b h0 h s t) {i side : Int32} (Q : Option Value → im_H → Prop) (k : ∀ h', MM b h0 h' (upd s 0 0) t → Q (some (.int (mOverlap s i side))) h') : gC (gD (d + 2)) 537 [.ref b, .int i, .int side] h Q := by
  refine gC.of (q := me_537.2) rfl (Nat.le_of_ble_eq_true rfl) rfl ?_
  iterate 2 refine gG.step (cd := cd_537) rfl (fun _ => rfl) ?_
  refine mPut hM rfl (by decide) rfl rfl rfl (fun h hM => ?_)
  have k := k h hM
  unfold mOverlap at k
  refine gG.step rfl (fun _ => rfl) ?_
  refine gG.ifc (tgt := 18) rfl rfl (fun c => ?_) (fun c => ?_)
  · rw [if_pos (c_ne.mp c)] at k
    refine gG.step rfl (fun _ => rfl) ?_
    refine gG.goto (tgt := 37) rfl rfl ?_
    exact gG.done rfl (fun _ => rfl) (k)
  · rw [if_neg (fun z => c (c_ne.mpr z))] at k
    iterate 3 refine gG.step rfl (fun _ => rfl) ?_
    refine gG.inv rfl (fun _ => rfl) (Nat.le_of_ble_eq_true rfl) rfl rfl (Nat.le_of_ble_eq_true rfl) ?_
    refine m_514 d _ _ _ _ _ ?_
    show gG _ _ _ _ 15 _ [Value.int (bI (decide (0 ≤ side ∧ side ≤ 1)))] _ _
    by_cases h1 : 0 ≤ side ∧ side ≤ 1
    · rw [if_pos h1] at k
      rw [decide_eq_true h1]
      refine gG.ifc (tgt := 22) rfl rfl (fun _ => ?_) (fun c => absurd (by decide) c)
      refine gG.step rfl (fun _ => rfl) ?_
      refine gG.ifc (tgt := 33) rfl rfl (fun c2 => ?_) (fun c2 => ?_)
      · rw [if_neg (c_ne.mp c2)] at k
        refine gG.step rfl (fun _ => rfl) ?_
        refine mGet hM rfl rfl ?_
        exact gG.done rfl (fun _ => rfl) (k)
      · rw [if_pos (Decidable.not_not.mp (fun z => c2 (c_ne.mpr z)))] at k
        refine gG.step rfl (fun _ => rfl) ?_
        refine mGet hM rfl rfl ?_
        refine gG.goto (tgt := 37) rfl rfl ?_
        exact gG.done rfl (fun _ => rfl) (k)
    · rw [if_neg h1] at k
      rw [decide_eq_false h1]
      refine gG.ifc (tgt := 22) rfl rfl (fun c => absurd c (by decide)) (fun _ => ?_)
      refine gG.step rfl (fun _ => rfl) ?_
      refine gG.goto (tgt := 37) rfl rfl ?_
      exact gG.done rfl (fun _ => rfl) (k)
def mBO (t : Nat → Nat → Int32) (m f : Nat) : Int32 := t 8 (fI m f 5) * (3 + t 8 (fI m f 3))
theorem m_539 (d : Nat) {b : Nat} {h0 h : im_H} {s : Nat → Int32} {t : Nat → Nat → Int32} (hM : MM b h0 h s t) {m f : Nat} (hm : m < 48) (hf : f < 30) (Q : Option Value → im_H → Prop) (k : Q (some (.int (mBO t m f))) h) : gC (gD (d + 2)) 539 [.ref b, .int (nI m), .int (nI f)] h Q := by
  refine gC.of (q := me_539.2) rfl (Nat.le_of_ble_eq_true rfl) rfl ?_
  iterate 4 refine gG.step (cd := cd_539) rfl (fun _ => rfl) ?_
  refine mVir hM rfl rfl rfl (Nat.le_of_ble_eq_true rfl) rfl rfl (Nat.le_of_ble_eq_true rfl) ?_
  refine m_519 d hM hm hf (show 5 < 14 by decide) _ ?_
  show gG _ _ _ _ 7 _ [Value.int (t 8 (fI m f 5))] _ _
  iterate 5 refine gG.step rfl (fun _ => rfl) ?_
  refine mVir hM rfl rfl rfl (Nat.le_of_ble_eq_true rfl) rfl rfl (Nat.le_of_ble_eq_true rfl) ?_
  refine m_519 d hM hm hf (show 3 < 14 by decide) _ ?_
  show gG _ _ _ _ 15 _ [Value.int (t 8 (fI m f 3)), Value.int 3, Value.int (t 8 (fI m f 5))] _ _
  iterate 2 refine gG.step rfl (fun _ => rfl) ?_
  exact gG.done rfl (fun _ => rfl) (k)
def mBT (t : Nat → Nat → Int32) (m : Nat) : Nat → Int32
  | 0 => 12
  | f + 1 => if 0 < t 8 (fI m f 0) then mBT t m f + mBO t m f else mBT t m f
theorem m_538 (d : Nat) {b : Nat} {h0 h : im_H} {s : Nat → Int32} {t : Nat → Nat → Int32} (hM : MM b h0 h s t) {m n : Nat} (hm : m < 48) (hn : n ≤ 30) (Q : Option Value → im_H → Prop) (k : Q (some (.int (mBT t m n))) h) : gC (gD (d + 3)) 538 [.ref b, .int (nI m), .int (nI n)] h Q := by
  refine gC.of (q := me_538.2) rfl (Nat.le_of_ble_eq_true rfl) rfl ?_
  iterate 4 refine gG.step (cd := cd_538) rfl (fun _ => rfl) ?_
  have key : ∀ r i : Nat, i + r = n → gG tb_T (gD (d + 2)) (some .int) cd_538 6 [some (.ref b), some (.int (nI m)), some (.int (nI n)), some (.int (mBT t m i)), some (.int (nI i))] [] h Q := by
    intro r
    induction r with
    | zero =>
      intro i hi
      have hi : i = n := by omega
      subst hi
      iterate 2 refine gG.step rfl (fun _ => rfl) ?_
      refine gG.icmp (tgt := 39) rfl rfl (fun _ => ?_) (fun c => absurd ((c_ge (by omega) (by omega)).mpr (by omega)) c)
      refine gG.step rfl (fun _ => rfl) ?_
      exact gG.done rfl (fun _ => rfl) (k)
    | succ r ih =>
      intro i hi
      iterate 2 refine gG.step rfl (fun _ => rfl) ?_
      refine gG.icmp (tgt := 39) rfl rfl (fun c => absurd c (fun z => absurd ((c_ge (by omega) (by omega)).mp z) (by omega))) (fun _ => ?_)
      iterate 4 refine gG.step rfl (fun _ => rfl) ?_
      refine mVir hM rfl rfl rfl (Nat.le_of_ble_eq_true rfl) rfl rfl (Nat.le_of_ble_eq_true rfl) ?_
      refine m_519 (d + 1) hM hm (by omega) (show 0 < 14 by decide) _ ?_
      show gG _ _ _ _ 20 _ [Value.int (t 8 (fI m i 0))] _ _
      have ih1 := ih (i + 1) (by omega)
      rw [← nI_1 i, mBT] at ih1
      refine gG.ifc (tgt := 33) rfl rfl (fun c => ?_) (fun c => ?_)
      · rw [if_neg (Int32.not_lt.mpr (of_decide_eq_true c))] at ih1
        refine gG.step rfl (fun _ => rfl) ?_
        refine gG.goto (tgt := 6) rfl rfl ?_
        exact ih1
      · rw [if_pos (Int32.not_le.mp (fun z => c (decide_eq_true z)))] at ih1
        iterate 4 refine gG.step rfl (fun _ => rfl) ?_
        refine mVir hM rfl rfl rfl (Nat.le_of_ble_eq_true rfl) rfl rfl (Nat.le_of_ble_eq_true rfl) ?_
        refine m_539 d hM hm (by omega) _ ?_
        show gG _ _ _ _ 31 _ [Value.int (mBO t m i), Value.int (mBT t m i)] _ _
        iterate 3 refine gG.step rfl (fun _ => rfl) ?_
        refine gG.goto (tgt := 6) rfl rfl ?_
        exact ih1
  exact key n 0 (by omega)
