def mGoodN (t : Nat → Nat → Int32) (a : Nat) : Int32 := 256 * t 11 a + t 11 (a + 1)
def mDigP (t : Nat → Nat → Int32) (a k : Nat) : Bool := !decide (48 ≤ t 11 (a + 3 + k) ∧ t 11 (a + 3 + k) ≤ 57)
def mGood (t : Nat → Nat → Int32) (m f a : Nat) : Bool := if t 8 (fI m f 3) < mGoodN t a then false else if ¬ t 8 (fI m f 8) &&& 1 ≤ 0 ∧ mGoodN t a = 0 then false else if ¬ t 8 (fI m f 8) &&& 2 ≤ 0 ∧ ¬ mGoodN t a ≤ 0 ∧ mGoodN t a < t 8 (fI m f 3) then false else if t 8 (fI m f 4) &&& 2 ≤ 0 then true else (sr (mDigP t a) (nv (mGoodN t a)) 0).isNone
theorem m_545 (d : Nat) {b : Nat} {h0 h : im_H} {s : Nat → Int32} {t : Nat → Nat → Int32} (hM : MM b h0 h s t) {m f a : Nat} (hm : m < 48) (hf : f < 30) (hl : ps (t 8 (fI m f 3)) 80) (ha : a + 3 + nv (t 8 (fI m f 3)) ≤ 4096) (hc0 : ps (t 11 a) 255) (hc1 : ps (t 11 (a + 1)) 255) (Q : Option Value → im_H → Prop) (k : Q (some (.int (bI (mGood t m f a)))) h) : gC (gD (d + 2)) 545 [.ref b, .int (nI m), .int (nI f), .int (nI a)] h Q := by
  refine gC.of (q := me_545.2) rfl (Nat.le_of_ble_eq_true rfl) rfl ?_
  iterate 4 refine gG.step (cd := cd_545) rfl (fun _ => rfl) ?_
  refine mVir hM rfl rfl rfl (Nat.le_of_ble_eq_true rfl) rfl rfl (Nat.le_of_ble_eq_true rfl) ?_
  refine m_519 d hM hm hf (show 3 < 14 by decide) _ ?_
  show gG _ _ _ _ 7 _ [Value.int (t 8 (fI m f 3))] h Q
  iterate 3 refine gG.step rfl (fun _ => rfl) ?_
  refine mGet hM rfl rfl ?_
  refine gG.step rfl (fun _ => rfl) ?_
  refine mAld (j := 11) (n := a) hM rfl (by decide) (by decide) rfl (show a < 4096 by omega) ?_
  iterate 2 refine gG.step rfl (fun _ => rfl) ?_
  refine mGet hM rfl rfl ?_
  iterate 3 refine gG.step rfl (fun _ => rfl) ?_
  refine mAld (j := 11) (n := a + 1) hM rfl (by decide) (by decide) (nI_1 a) (show a + 1 < 4096 by omega) ?_
  refine gG.step rfl (fun _ => rfl) ?_
  refine gG.step (L' := [some (.ref b), some (.int (nI m)), some (.int (nI f)), some (.int (nI a)), some (.int (t 8 (fI m f 3))), some (.int (mGoodN t a)), none, none]) rfl (fun _ => rfl) ?_
  iterate 4 refine gG.step rfl (fun _ => rfl) ?_
  refine mVir hM rfl rfl rfl (Nat.le_of_ble_eq_true rfl) rfl rfl (Nat.le_of_ble_eq_true rfl) ?_
  refine m_519 d hM hm hf (show 8 < 14 by decide) _ ?_
  show gG _ _ _ _ 38 _ [Value.int (t 8 (fI m f 8))] h Q
  refine gG.step (L' := [some (.ref b), some (.int (nI m)), some (.int (nI f)), some (.int (nI a)), some (.int (t 8 (fI m f 3))), some (.int (mGoodN t a)), some (.int (t 8 (fI m f 8))), none]) rfl (fun _ => rfl) ?_
  have hN : mGoodN t a = nI (256 * nv (t 11 a) + nv (t 11 (a + 1))) := by
    unfold mGoodN
    rw [hc0.1, hc1.1, nv_nI (by have := hc0.2; omega), nv_nI (by have := hc1.2; omega), show (256 : Int32) = nI 256 from rfl, pk_mul, nI_add]
  have hNb : 256 * nv (t 11 a) + nv (t 11 (a + 1)) < 2 ^ 31 := by have := hc0.2; have := hc1.2; omega
  have hNv : nv (mGoodN t a) = 256 * nv (t 11 a) + nv (t 11 (a + 1)) := by rw [hN, nv_nI hNb]
  have bad : mGood t m f a = false → gG tb_T (gD (d + 1)) (some .boolean) cd_545 78 [some (.ref b), some (.int (nI m)), some (.int (nI f)), some (.int (nI a)), some (.int (t 8 (fI m f 3))), some (.int (mGoodN t a)), some (.int (t 8 (fI m f 8))), none] [] h Q := by
    intro hb
    rw [hb] at k
    refine gG.step rfl (fun _ => rfl) ?_
    exact gG.done rfl (fun _ => rfl) (k)
  unfold mGood at k bad
  iterate 2 refine gG.step rfl (fun _ => rfl) ?_
  refine gG.icmp (tgt := 78) rfl rfl (fun c1 => ?_) (fun c1 => ?_)
  · exact bad (by rw [if_pos (of_decide_eq_true c1)])
  · have c1' : ¬ t 8 (fI m f 3) < mGoodN t a := fun z => c1 (decide_eq_true z)
    have hle : nv (mGoodN t a) ≤ nv (t 8 (fI m f 3)) := by
      apply Nat.le_of_not_lt
      intro hz
      apply c1'
      rw [hl.1, hN]
      exact (nI_ltI (by have := hl.2; omega) hNb).mpr (by rw [← hNv]; exact hz)
    rw [if_neg c1'] at k bad
    have good : (¬ (¬ t 8 (fI m f 8) &&& 1 ≤ 0 ∧ mGoodN t a = 0)) → (¬ (¬ t 8 (fI m f 8) &&& 2 ≤ 0 ∧ ¬ mGoodN t a ≤ 0 ∧ mGoodN t a < t 8 (fI m f 3))) → gG tb_T (gD (d + 1)) (some .boolean) cd_545 80 [some (.ref b), some (.int (nI m)), some (.int (nI f)), some (.int (nI a)), some (.int (t 8 (fI m f 3))), some (.int (mGoodN t a)), some (.int (t 8 (fI m f 8))), none] [] h Q := by
      intro g1 g2
      rw [if_neg g1, if_neg g2] at k
      iterate 2 refine gG.step rfl (fun _ => rfl) ?_
      have key : ∀ r i : Nat, i + r = nv (mGoodN t a) → Q (some (.int (bI (if t 8 (fI m f 4) &&& 2 ≤ 0 then true else (sr (mDigP t a) r i).isNone)))) h → gG tb_T (gD (d + 1)) (some .boolean) cd_545 83 [some (.ref b), some (.int (nI m)), some (.int (nI f)), some (.int (nI a)), some (.int (t 8 (fI m f 3))), some (.int (mGoodN t a)), some (.int (t 8 (fI m f 8))), some (.int (nI i))] [] h Q := by
        intro r
        induction r with
        | zero =>
          intro i hi hq
          have hi : i = nv (mGoodN t a) := by omega
          iterate 2 refine gG.step rfl (fun _ => rfl) ?_
          refine gG.icmp (tgt := 131) rfl rfl (fun _ => ?_) (fun c => absurd (show im_cmp .ge (nI i) (mGoodN t a) = true by rw [hN]; exact (c_ge (by omega) hNb).mpr (by omega)) c)
          refine gG.step rfl (fun _ => rfl) ?_
          refine gG.done rfl (fun _ => rfl) ?_
          have e0 : (if t 8 (fI m f 4) &&& 2 ≤ 0 then true else (sr (mDigP t a) 0 i).isNone) = true := by split <;> rfl
          rw [e0] at hq
          exact hq
        | succ r ih =>
          intro i hi hq
          iterate 2 refine gG.step rfl (fun _ => rfl) ?_
          refine gG.icmp (tgt := 131) rfl rfl (fun z => absurd (show i ≥ _ from (c_ge (b := 256 * nv (t 11 a) + nv (t 11 (a + 1))) (by omega) hNb).mp (by rw [← hN]; exact z)) (by omega)) (fun _ => ?_)
          iterate 4 refine gG.step rfl (fun _ => rfl) ?_
          refine mVir hM rfl rfl rfl (Nat.le_of_ble_eq_true rfl) rfl rfl (Nat.le_of_ble_eq_true rfl) ?_
          refine m_519 d hM hm hf (show 4 < 14 by decide) _ ?_
          show gG _ _ _ _ 97 _ [Value.int (t 8 (fI m f 4))] h Q
          iterate 2 refine gG.step rfl (fun _ => rfl) ?_
          refine gG.ifc (tgt := 131) rfl rfl (fun c => ?_) (fun c => ?_)
          · rw [if_pos (show t 8 (fI m f 4) &&& 2 ≤ 0 from of_decide_eq_true c)] at hq
            refine gG.step rfl (fun _ => rfl) ?_
            exact gG.done rfl (fun _ => rfl) (hq)
          · have c' : ¬ t 8 (fI m f 4) &&& 2 ≤ 0 := fun z => c (decide_eq_true z)
            rw [if_neg c', sr] at hq
            refine gG.step rfl (fun _ => rfl) ?_
            refine mGet hM rfl rfl ?_
            iterate 5 refine gG.step rfl (fun _ => rfl) ?_
            refine mAld (j := 11) (n := a + 3 + i) hM rfl (by decide) (by decide) (by show nI a + 3 + nI i = _; rw [show (3 : Int32) = nI 3 from rfl, nI_add, nI_add]) (show a + 3 + i < 4096 by omega) ?_
            iterate 2 refine gG.step rfl (fun _ => rfl) ?_
            refine gG.inv rfl (fun _ => rfl) (Nat.le_of_ble_eq_true rfl) rfl rfl (Nat.le_of_ble_eq_true rfl) ?_
            refine m_514 d _ _ _ _ _ ?_
            show gG _ _ _ _ 120 _ [Value.int (bI (decide (48 ≤ t 11 (a + 3 + i) ∧ t 11 (a + 3 + i) ≤ 57)))] h Q
            by_cases hd : 48 ≤ t 11 (a + 3 + i) ∧ t 11 (a + 3 + i) ≤ 57
            · rw [decide_eq_true hd]
              rw [if_neg (by unfold mDigP; rw [decide_eq_true hd]; decide)] at hq
              refine gG.ifc (tgt := 125) rfl rfl (fun _ => ?_) (fun c => absurd (by decide) c)
              refine gG.step rfl (fun _ => rfl) ?_
              refine gG.goto (tgt := 83) rfl rfl ?_
              have ih1 := ih (i + 1) (by omega) (by rw [if_neg c']; exact hq)
              rw [← nI_1 i] at ih1
              exact ih1
            · rw [decide_eq_false hd]
              rw [if_pos (by unfold mDigP; rw [decide_eq_false hd]; rfl)] at hq
              refine gG.ifc (tgt := 125) rfl rfl (fun c => absurd c (by decide)) (fun _ => ?_)
              refine gG.step rfl (fun _ => rfl) ?_
              exact gG.done rfl (fun _ => rfl) (hq)
      exact key (nv (mGoodN t a)) 0 (by omega) k
    iterate 3 refine gG.step rfl (fun _ => rfl) ?_
    have part2 : (¬ (¬ t 8 (fI m f 8) &&& 1 ≤ 0 ∧ mGoodN t a = 0)) → gG tb_T (gD (d + 1)) (some .boolean) cd_545 59 [some (.ref b), some (.int (nI m)), some (.int (nI f)), some (.int (nI a)), some (.int (t 8 (fI m f 3))), some (.int (mGoodN t a)), some (.int (t 8 (fI m f 8))), none] [] h Q := by
      intro g1
      rw [if_neg g1] at bad
      iterate 3 refine gG.step rfl (fun _ => rfl) ?_
      refine gG.ifc (tgt := 80) rfl rfl (fun c => ?_) (fun c => ?_)
      · exact good g1 (fun z => z.1 (of_decide_eq_true c))
      · refine gG.step rfl (fun _ => rfl) ?_
        refine gG.ifc (tgt := 80) rfl rfl (fun c2 => ?_) (fun c2 => ?_)
        · exact good g1 (fun z => z.2.1 (of_decide_eq_true c2))
        · iterate 2 refine gG.step rfl (fun _ => rfl) ?_
          refine gG.icmp (tgt := 80) rfl rfl (fun c3 => ?_) (fun c3 => ?_)
          · exact good g1 (fun z => absurd z.2.2 (Int32.not_lt.mpr (of_decide_eq_true c3)))
          · exact bad (by rw [if_pos ⟨fun z => c (decide_eq_true z), fun z => c2 (decide_eq_true z), Int32.not_le.mp (fun z => c3 (decide_eq_true z))⟩])
    refine gG.ifc (tgt := 59) rfl rfl (fun c => ?_) (fun c => ?_)
    · exact part2 (fun z => z.1 (of_decide_eq_true c))
    · refine gG.step rfl (fun _ => rfl) ?_
      refine gG.ifc (tgt := 78) rfl rfl (fun c2 => ?_) (fun c2 => ?_)
      · exact bad (by rw [if_pos ⟨fun z => c (decide_eq_true z), c_ee.mp c2⟩])
      · exact part2 (fun z => c2 (c_ee.mpr z.2))
